/** Promises 6 to 11 and 20: what stands, LIVE and SCOPE, entries, acts, letters. */
public final class StandTest {
    private static final String FOUR = "person;person;firm;person;";

    public static void main(String[] args) {
        nowTellsAll();
        powersAsTold();
        scopes();
        liveAtMoments();
        reasons();
        entries();
        actsAsPutDown();
        letters();
        Probe.finish("StandTest");
    }

    private static void nowTellsAll() {
        AuthorityBook book = Probe.book("firm;person;firm;person;from 0 to 1 by 1 kinds 0 most 9;");
        book.days(7);
        book.die(3);
        book.die(2);
        book.does(2, 0, 1, 0, 1);
        book.feed(0, 0, 0, 0, 0);
        int[] due = {4, 1, 2, 7, 0, 5, 12, 20};
        for (int what = 0; what <= 7; what++) {
            Probe.same("now(" + what + ")", book.now(what), due[what]);
        }
        for (int what : new int[] {-1, 8, Integer.MIN_VALUE, Integer.MAX_VALUE}) {
            Probe.same("now(" + what + ")", book.now(what), -1);
        }
        AuthorityBook acting = Probe.book("person;person;person;");
        acting.does(2, 0, 2, 0, 1);
        acting.does(2, 0, 2, 0, 1);
        Probe.same("ACTS", acting.now(4), 2);
    }

    private static void powersAsTold() {
        AuthorityBook book = Probe.book(FOUR + "from 3 to 2 0 by 2 kinds 5 1 most 70 till 8 sub;"
            + "under 0 to 1 by 1 kinds 0 most 999;from 1 to 0 by 1 kinds 3 most 0 till 0;");
        int[][] due = {{3, 5, 2, 34, 70, 8, 1, -1}, {3, 2, 1, 1, 999, -1, 0, 0}, {1, 1, 1, 8, 0, 0, 0, -1}};
        book.narrow(0, 2, 3);
        book.finish(0);
        for (int power = 0; power < 3; power++) {
            for (int what = 0; what < 8; what++) {
                Probe.same("power(" + power + ", " + what + ")", Probe.power(book, power, what), due[power][what]);
            }
        }
        int[][] none = {{-1, 0}, {3, 0}, {0, -1}, {0, 8}, {Integer.MIN_VALUE, 0}, {0, Integer.MAX_VALUE}};
        for (int[] one : none) {
            Probe.same("power(" + one[0] + ", " + one[1] + ")", Probe.power(book, one[0], one[1]), Probe.THROWN);
        }
    }

    private static void scopes() {
        AuthorityBook book = Probe.book(FOUR + "from 0 to 1 by 1 kinds 0 1 2 most 100 sub;"
            + "under 0 to 2 by 1 kinds 1 2 3 most 200 sub;under 1 to 3 by 1 kinds 2 3 1 most 50;"
            + "from 3 to 1 by 1 kinds 0 1 2 3 4 5 most 5;");
        Probe.same("kinds met", book.scope(1, 0, 1), 6);
        Probe.same("lesser amount", book.scope(1, 0, 2), 100);
        Probe.same("kinds met twice", book.scope(2, 0, 1), 6);
        Probe.same("least amount", book.scope(2, 0, 2), 50);
        book.narrow(0, 5, 60);
        book.narrow(1, 63, 40);
        book.narrow(0, 63, 90);
        book.narrow(2, 0, 999);
        int[][] kinds = {{7, 5, 5, 5, 5}, {6, 4, 4, 4, 4}, {6, 4, 4, 4, 0}, {63, 63, 63, 63, 63}};
        int[][] most = {{100, 60, 60, 60, 60}, {100, 60, 40, 40, 40}, {50, 50, 40, 40, 40}, {5, 5, 5, 5, 5}};
        for (int power = 0; power < 4; power++) {
            for (int moment = 0; moment <= 4; moment++) {
                Probe.same("kinds of " + power + " at " + moment, book.scope(power, moment, 1), kinds[power][moment]);
                Probe.same("amount of " + power + " at " + moment, book.scope(power, moment, 2), most[power][moment]);
            }
        }
        int[][] none = {{-1, 0, 0}, {4, 0, 0}, {0, -1, 0}, {0, 5, 0}, {0, 0, -1}, {0, 0, 3}};
        for (int[] one : none) {
            Probe.same("no such scope", book.scope(one[0], one[1], one[2]), -1);
        }
    }

    private static void liveAtMoments() {
        AuthorityBook book = Probe.book(FOUR + "from 0 to 1 2 3 by 2 kinds 0 most 9 till 4 sub;"
            + "under 0 to 1 by 1 kinds 0 most 9;from 1 to 0 by 1 kinds 0 most 9 sub;under 2 to 2 by 1 kinds 0 most 9;");
        book.die(2);
        book.days(4);
        book.enter(0, false);
        book.days(1);
        Probe.same("the DAY of the MOMENT counts", book.scope(0, 2, 0), 1);
        book.enter(1, false);
        book.finish(2);
        book.die(1);
        int[][] live = {{1, 1, 1, 0, 0, 0}, {1, 1, 1, 0, 0, 0}, {1, 1, 1, 1, 0, 0}, {1, 0, 0, 0, 0, 0}};
        for (int power = 0; power < 4; power++) {
            for (int moment = 0; moment <= 5; moment++) {
                Probe.same("live " + power + " at " + moment, book.scope(power, moment, 0), live[power][moment]);
            }
        }
    }

    private static void reasons() {
        String powers = "from 0 to 1 2 3 by 2 kinds 0 most 9 till 4 sub;under 0 to 3 by 1 kinds 0 most 9 sub;"
            + "under 1 to 2 by 1 kinds 0 most 9;from 1 to 0 by 1 kinds 0 most 9;";
        AuthorityBook book = Probe.book(FOUR + powers);
        due(book, "at first", 0, 0, 0, 0);
        book.die(3);
        due(book, "one HOLDER fewer", 0, 4, 5, 0);
        book.die(1);
        due(book, "two HOLDERS fewer", 4, 4, 5, 3);
        book.die(0);
        due(book, "who gave them", 3, 3, 3, 3);
        book.days(4);
        due(book, "on the last DAY", 3, 3, 3, 3);
        book.days(1);
        due(book, "behind the last DAY", 2, 3, 3, 3);
        Probe.same("no end by the dead", book.finish(0), -3);

        AuthorityBook other = Probe.book(FOUR + powers);
        other.finish(1);
        due(other, "ENDED in between", 0, 1, 5, 0);
        other.days(5);
        other.finish(0);
        other.die(0);
        due(other, "ENDED is the first", 1, 1, 3, 4);
        Probe.same("over(-1)", other.over(-1), -1);
        Probe.same("over(4)", other.over(4), -1);
    }

    private static void due(AuthorityBook book, String when, int... why) {
        for (int i = 0; i < why.length; i++) {
            Probe.same(when + ": over(" + i + ")", book.over(i), why[i]);
        }
    }

    private static void entries() {
        AuthorityBook book = Probe.book(FOUR + "from 0 to 1 by 1 kinds 0 most 9;from 0 to 1 by 1 kinds 0 most 9;");
        book.die(3);
        book.enter(1, false);
        book.finish(1);
        book.enter(1, true);
        int[] due = {3, 2, 4};
        for (int what = 0; what < 3; what++) {
            Probe.same("entry(1, " + what + ")", book.entry(1, what), due[what]);
            Probe.same("entry(0, " + what + ")", book.entry(0, what), -1);
            Probe.same("entry(2, " + what + ")", book.entry(2, what), -1);
            Probe.same("entry(-1, " + what + ")", book.entry(-1, what), -1);
        }
        Probe.same("entry(1, 3)", book.entry(1, 3), -1);
        Probe.same("entry(1, -1)", book.entry(1, -1), -1);
    }

    private static void actsAsPutDown() {
        AuthorityBook book = Probe.book(FOUR);
        book.enter(0, false);
        book.days(20);
        book.does(10, 0, 2, 5, 999);
        book.days(3);
        book.does(8, 2, 0, 1, 0);
        book.approve(0);
        book.giveUp(1);
        int[][] due = {{10, 0, 2, 5, 999, 1, 20, 3, -1}, {8, 2, 0, 1, 0, 2, 23, -1, 4}};
        for (int act = 0; act < 2; act++) {
            for (int what = 0; what < 9; what++) {
                Probe.same("act(" + act + ", " + what + ")", Probe.act(book, act, what), due[act][what]);
            }
        }
        int[][] none = {{-1, 0}, {2, 0}, {0, -1}, {0, 9}, {Integer.MAX_VALUE, 0}, {0, Integer.MIN_VALUE}};
        for (int[] one : none) {
            Probe.same("act(" + one[0] + ", " + one[1] + ")", Probe.act(book, one[0], one[1]), Probe.THROWN);
        }
    }

    private static void letters() {
        String eight = Probe.times("person;", 8);
        String[] lines = {
            "from 7 to 0 1 2 3 4 5 6 by 7 kinds 0 1 2 3 4 5 most 999 till 999 sub;",
            "under 0 to 3 by 1 kinds 5 most 0 till 0;",
            "from 0 to 1 by 1 kinds 0 most 10 sub;",
            "from 0 to 1 7 by 2 kinds 0 5 most 100 till 10;",
            "from 0 to 1 by 1 kinds 4 most 109 till 9;"};
        AuthorityBook book = Probe.book(eight + String.join("\n", lines));
        for (int i = 0; i < lines.length; i++) {
            Probe.yes("letters " + lines[i] + " were " + Probe.letters(book, i), Probe.letters(book, i).equals(lines[i]));
            Probe.same("behind " + lines[i], book.letter(i, lines[i].length()), -1);
            Probe.same("the last of " + lines[i], book.letter(i, lines[i].length() - 1), ';');
        }
        AuthorityBook mixed = Probe.book(eight + "from  0\nto 5 003 1 by 02 kinds 4 0 2 most 050 till 007 sub ;");
        mixed.narrow(0, 1, 1);
        String due = "from 0 to 1 3 5 by 2 kinds 0 2 4 most 50 till 7 sub;";
        Probe.yes("letters in their order, as told: " + Probe.letters(mixed, 0), Probe.letters(mixed, 0).equals(due));
        for (int i : new int[] {-1, Integer.MIN_VALUE, Integer.MAX_VALUE, 200}) {
            Probe.same("letter(0, " + i + ")", mixed.letter(0, i), -1);
        }
        Probe.same("letter(1, 0)", mixed.letter(1, 0), -1);
        Probe.same("letter(-1, 0)", mixed.letter(-1, 0), -1);

        String twenty = "person;person;" + Probe.times("from 0 to 1 by 1 kinds 0 most 1 sub;", 18);
        AuthorityBook full = Probe.book(twenty + "under 17 to 1 by 1 kinds 0 most 1;");
        String last = "under 17 to 1 by 1 kinds 0 most 1;";
        Probe.yes("letters of two digits: " + Probe.letters(full, 18), Probe.letters(full, 18).equals(last));
    }
}
