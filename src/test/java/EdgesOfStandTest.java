/** The edges of promises 6 to 11 and 20, sentence by sentence: what stands, and powers told again. */
public final class EdgesOfStandTest {
    private static final String NOW = "Promise 6: now";
    private static final String POWER = "Promise 7: power";
    private static final String SCOPE = "Promise 8: scope";
    private static final String OVER = "Promise 9: over";
    private static final String ENTRY = "Promise 10: entry";
    private static final String ACT = "Promise 11: act";
    private static final String LETTER = "Promise 20: letter";
    private static final String FOUR = "person;person;firm;person;";
    private static final String EIGHT = Probe.times("person;", 8);

    public static void main(String[] args) {
        nowTells();
        nowOfAnother();
        powerAsTold();
        powerThrows();
        scopeTells();
        scopeOfNone();
        overWhy();
        overLive();
        overOfNone();
        entryTells();
        entryOfNone();
        actTells();
        actThrows();
        letterAsTold();
        letterForm();
        letterBehind();
        Edge.finish("EdgesOfStandTest", NOW, POWER, SCOPE, OVER, ENTRY, ACT, LETTER);
    }

    private static void nowTells() {
        Edge.of(NOW, "0 PARTIES, 1 POWERS, 2 MOMENT (of the latest thing that was put down), 3 DAY, 4 ACTS, "
            + "5 firms (bits), 6 who has DIED (bits), 7 bytes of the tape.");
        Desk none = new Desk();
        for (int what = 0; what <= 7; what++) {
            Edge.same("of a new object: now(" + what + ")", none.now(what), 0);
        }
        Desk desk = new Desk("firm;" + Probe.times("person;", 6) + "firm;" + "from 0 to 1 by 1 kinds 0 most 1;");
        int[][] due = {{8, 1, 0, 0, 0, 129, 0, 0}, {8, 1, 1, 99, 1, 129, 0, 0}, {8, 1, 3, 99, 1, 129, 129, 20}};
        told(desk, due[0]);
        desk.days(99);
        desk.does(2, 0, 7, 0, 1);
        told(desk, due[1]);
        desk.die(7);
        desk.die(0);
        desk.feed("firm;");
        told(desk, due[2]);
        desk.does(2, 3, 7, 0, 1);
        desk.die(0);
        desk.days(0);
        told(desk, due[2]);
        Desk full = new Desk(Probe.times("firm;", 8) + Probe.times("from 0 to 1 by 1 kinds 0 most 1;", 20));
        told(full, new int[] {8, 20, 0, 0, 0, 255, 0, 0});
        Desk dead = new Desk(EIGHT);
        for (int party = 0; party < 8; party++) {
            dead.die(party);
        }
        Edge.same("all have DIED", dead.now(6), 255);
    }

    private static void told(Desk desk, int[] due) {
        for (int what = 0; what <= 7; what++) {
            Edge.same("now(" + what + ")", desk.now(what), due[what]);
        }
    }

    private static void nowOfAnother() {
        Edge.of(NOW, "NONE for another what.");
        Desk desk = new Desk(FOUR);
        desk.feed("firm;");
        Edge.same("now(0)", desk.now(0), 4);
        Edge.same("now(7)", desk.now(7), 20);
        for (int what : Edge.outside(8)) {
            Edge.same("now(" + what + ")", desk.now(what), -1);
        }
    }

    private static void powerAsTold() {
        Edge.of(POWER, "Of a POWER as told 0 who gave it, 1 HOLDERS (bits), 2 how many must act together, "
            + "3 KINDS (bits), 4 amount, 5 the last DAY (NONE), 6 1 if others may be handed on under it, "
            + "7 under which it is (NONE).");
        Desk desk = new Desk(EIGHT + "from 7 to 0 1 2 3 4 5 6 by 7 kinds 0 1 2 3 4 5 most 999 till 999 sub;"
            + "under 0 to 0 by 1 kinds 5 most 0 till 0 sub;under 1 to 6 0 by 2 kinds 0 most 1;"
            + "from 0 to 7 by 1 kinds 4 most 998 till 998;");
        int[][] due = {{7, 127, 7, 63, 999, 999, 1, -1}, {7, 1, 1, 32, 0, 0, 1, 0}, {7, 65, 2, 1, 1, -1, 0, 1},
            {0, 128, 1, 16, 998, 998, 0, -1}};
        asTold(desk, due);
        desk.narrow(0, 1, 1);
        desk.days(1);
        desk.finish(1);
        desk.die(0);
        asTold(desk, due);
    }

    private static void asTold(Desk desk, int[][] due) {
        for (int power = 0; power < due.length; power++) {
            for (int what = 0; what < 8; what++) {
                Edge.same("power(" + power + ", " + what + ")", desk.power(power, what), due[power][what]);
            }
        }
    }

    private static void powerThrows() {
        Edge.of(POWER, "NoSuchElementException: no such one, another what.");
        Desk desk = new Desk("person;person;from 1 to 0 by 1 kinds 0 most 9;from 1 to 0 by 1 kinds 0 most 9;");
        Edge.same("the first", desk.power(0, 0), 1);
        Edge.same("the last", desk.power(1, 7), -1);
        for (int power : Edge.outside(2)) {
            Edge.same("power(" + power + ", 0)", desk.power(power, 0), Probe.THROWN);
            Edge.same("power(" + power + ", 7)", desk.power(power, 7), Probe.THROWN);
        }
        for (int what : Edge.outside(8)) {
            Edge.same("power(0, " + what + ")", desk.power(0, what), Probe.THROWN);
            Edge.same("power(1, " + what + ")", desk.power(1, what), Probe.THROWN);
        }
        // one with room for more, told ahead of a TEXT with fewer
        desk.tell("person;person;from 1 to 0 by 1 kinds 0 most 9;");
        Edge.same("of the TEXT ahead", desk.power(1, 0), Probe.THROWN);
        desk.tell("");
        Edge.same("of a TEXT with none", desk.power(0, 0), Probe.THROWN);
    }

    private static void scopeTells() {
        Edge.of(SCOPE, "Of a POWER at a MOMENT (0 to the latest) 0 1 if it is LIVE, 1 KINDS of its SCOPE (bits), "
            + "2 the amount of it.");
        Desk desk = new Desk(FOUR + "from 0 to 1 by 1 kinds 0 1 2 3 4 5 most 999 till 1 sub;under 0 to 3 by 1 kinds 5 most 9;");
        desk.narrow(0, 32, 5);
        desk.days(1);
        desk.narrow(1, 31, 7);
        desk.days(1);
        desk.narrow(0, 0, 0);
        int[][] due = {{1, 63, 999, 1, 32, 9}, {1, 32, 5, 1, 32, 5}, {1, 32, 5, 1, 0, 5}, {0, 0, 0, 0, 0, 0}};
        for (int moment = 0; moment < 4; moment++) {
            for (int i = 0; i < 6; i++) {
                Edge.same("scope(" + i / 3 + ", " + moment + ", " + i % 3 + ")", desk.scope(i / 3, moment, i % 3),
                    due[moment][i]);
            }
        }
        Desk none = new Desk(FOUR + "from 0 to 1 by 1 kinds 0 most 9;");
        Edge.same("at 0, the latest", none.scope(0, 0, 2), 9);
        Edge.same("at 1, behind it", none.scope(0, 1, 2), -1);
        none.passTo(300);
        Edge.same("at 299", none.scope(0, 299, 2), 9);
        Edge.same("at 300, the latest", none.scope(0, 300, 2), 9);
        Edge.same("at 301", none.scope(0, 301, 2), -1);
    }

    private static void scopeOfNone() {
        Edge.of(SCOPE, "NONE: no such ones, another what.");
        Desk desk = new Desk(FOUR + "from 0 to 1 by 1 kinds 0 most 9;from 0 to 1 by 1 kinds 0 most 9;");
        desk.passTo(2);
        for (int what = 0; what < 3; what++) {
            for (int power : Edge.outside(2)) {
                Edge.same("scope(" + power + ", 0, " + what + ")", desk.scope(power, 0, what), -1);
            }
            for (int moment : Edge.outside(3)) {
                Edge.same("scope(1, " + moment + ", " + what + ")", desk.scope(1, moment, what), -1);
            }
        }
        for (int what : Edge.outside(3)) {
            Edge.same("scope(1, 2, " + what + ")", desk.scope(1, 2, what), -1);
        }
        Edge.same("scope(1, 2, 2)", desk.scope(1, 2, 2), 9);
        Edge.same("scope(0, 0, 0)", desk.scope(0, 0, 0), 1);
    }

    private static void overWhy() {
        Edge.of(OVER, "Why a POWER is not LIVE now, the first of these that is so: 1 ENDED, 2 by its DAY, "
            + "3 who gave it has DIED, 4 too few HOLDERS, 5 that under which it is;");
        // of all 32 ways to be over, the first is told
        for (int ways = 1; ways < 32; ways++) {
            Desk desk = new Desk("person;person;person;person;from 0 to 1 by 1 kinds 0 most 9 sub;"
                + "under 0 to 2 3 by 2 kinds 0 most 9 till 1;");
            if ((ways & 1) != 0) {
                desk.finish(1);
            }
            if ((ways & 16) != 0) {
                desk.finish(0);
            }
            desk.days((ways & 2) != 0 ? 2 : 1);
            if ((ways & 4) != 0) {
                desk.die(0);
            }
            if ((ways & 8) != 0) {
                desk.die(3);
            }
            Edge.same("ways " + ways, desk.over(1), 1 + Integer.numberOfTrailingZeros(ways));
        }
        Desk chain = new Desk("person;person;person;person;from 0 to 1 by 1 kinds 0 most 9 till 0 sub;"
            + "under 0 to 2 by 1 kinds 0 most 9 sub;under 1 to 3 by 1 kinds 0 most 9;");
        chain.days(1);
        Edge.same("by its DAY", chain.over(0), 2);
        Edge.same("under it", chain.over(1), 5);
        Edge.same("under that", chain.over(2), 5);
    }

    private static void overLive() {
        Edge.of(OVER, "0: it is LIVE.");
        Desk desk = new Desk("person;person;person;from 0 to 1 2 by 1 kinds 0 most 9 till 1 sub;"
            + "under 0 to 2 by 1 kinds 0 most 9;");
        desk.narrow(0, 0, 0);
        desk.enter(0, false);
        desk.days(1);
        desk.die(1);
        Edge.same("just enough of all", desk.over(0), 0);
        Edge.same("under it", desk.over(1), 0);
        desk.finish(1);
        Edge.same("one under it is ENDED", desk.over(0), 0);
        desk.die(2);
        Edge.same("no longer", desk.over(0), 4);
    }

    private static void overOfNone() {
        Edge.of(OVER, "NONE: no such one.");
        Desk desk = new Desk(FOUR + Probe.times("from 0 to 1 by 1 kinds 0 most 9;", 3));
        for (int power : Edge.outside(3)) {
            Edge.same("over(" + power + ")", desk.over(power), -1);
        }
        Edge.same("the first", desk.over(0), 0);
        Edge.same("the last", desk.over(2), 0);
    }

    private static void entryTells() {
        Edge.of(ENTRY, "The MOMENT at which 0 it was ENDED, 1 ENTERED, 2 its end was ENTERED;");
        Desk desk = new Desk(FOUR + "from 0 to 1 by 1 kinds 0 most 9;from 0 to 1 by 1 kinds 0 most 9;");
        desk.enter(1, false);
        desk.enter(0, false);
        desk.finish(1);
        desk.enter(1, true);
        desk.passTo(299);
        desk.finish(0);
        int[][] due = {{300, 2, -1}, {3, 1, 4}};
        for (int power = 0; power < 2; power++) {
            for (int what = 0; what < 3; what++) {
                Edge.same("entry(" + power + ", " + what + ")", desk.entry(power, what), due[power][what]);
            }
        }
        Edge.same("refused", desk.enter(0, true), -1);
        Edge.same("so it is not", desk.entry(0, 2), -1);
    }

    private static void entryOfNone() {
        Edge.of(ENTRY, "NONE: not, no such POWER, another what.");
        Desk desk = new Desk(FOUR + "from 0 to 1 by 1 kinds 0 most 9;from 0 to 1 by 1 kinds 0 most 9;");
        for (int what = 0; what < 3; what++) {
            Edge.same("not", desk.entry(1, what), -1);
        }
        desk.enter(1, false);
        desk.finish(1);
        desk.enter(1, true);
        for (int what = 0; what < 3; what++) {
            Edge.yes("it is", desk.entry(1, what) > 0);
            Edge.same("another is not", desk.entry(0, what), -1);
            for (int power : Edge.outside(2)) {
                Edge.same("entry(" + power + ", " + what + ")", desk.entry(power, what), -1);
            }
        }
        for (int what : Edge.outside(3)) {
            Edge.same("entry(1, " + what + ")", desk.entry(1, what), -1);
        }
    }

    private static void actTells() {
        Edge.of(ACT, "Of an ACT 0 who acted (bits), 1 in whose name, 2 the third, 3 its KIND, 4 amount, 5 its MOMENT, "
            + "6 its DAY, 7 when it was APPROVED (a MOMENT; NONE), 8 given up (likewise).");
        Desk desk = new Desk(EIGHT);
        desk.does(254 - 128, 0, 7, 0, 0);
        for (int i = 0; i < 10; i++) {
            desk.days(99);
        }
        desk.days(9);
        desk.die(4);
        desk.does(1, 7, 6, 5, 999);
        desk.approve(1);
        desk.giveUp(0);
        desk.does(128, 6, 0, 3, 1);
        int[][] due = {{126, 0, 7, 0, 0, 1, 0, -1, 5}, {1, 7, 6, 5, 999, 3, 999, 4, -1}, {128, 6, 0, 3, 1, 6, 999, -1, -1}};
        for (int act = 0; act < 3; act++) {
            for (int what = 0; what < 9; what++) {
                Edge.same("act(" + act + ", " + what + ")", desk.act(act, what), due[act][what]);
            }
        }
    }

    private static void actThrows() {
        Edge.of(ACT, "NoSuchElementException: no such one, another what.");
        Desk desk = new Desk(FOUR);
        Edge.same("none yet", desk.act(0, 0), Probe.THROWN);
        desk.does(2, 0, 3, 0, 1);
        desk.does(2, 0, 3, 0, 1);
        Edge.same("the first", desk.act(0, 0), 2);
        Edge.same("the last", desk.act(1, 8), -1);
        for (int act : Edge.outside(2)) {
            Edge.same("act(" + act + ", 0)", desk.act(act, 0), Probe.THROWN);
            Edge.same("act(" + act + ", 8)", desk.act(act, 8), Probe.THROWN);
        }
        for (int what : Edge.outside(9)) {
            Edge.same("act(0, " + what + ")", desk.act(0, what), Probe.THROWN);
            Edge.same("act(1, " + what + ")", desk.act(1, what), Probe.THROWN);
        }
        for (int i = 2; i < 17; i++) {
            desk.does(2, 0, 3, 0, 1);
        }
        Edge.same("the sixteenth", desk.act(15, 0), 2);
        Edge.same("no seventeenth", desk.act(16, 0), Probe.THROWN);
        desk.tell(FOUR);
        Edge.same("of the TEXT ahead", desk.act(0, 0), Probe.THROWN);
    }

    private static void letterAsTold() {
        Edge.of(LETTER, "A POWER as a TEXT's LINE (as told;");
        String first = "from 0 to 1 by 1 kinds 0 1 most 50 till 9 sub;";
        String second = "under 0 to 2 by 1 kinds 1 most 999;";
        Desk desk = new Desk("person;person;person;" + first + second);
        desk.narrow(0, 1, 1);
        desk.days(10);
        desk.finish(1);
        desk.die(0);
        desk.die(1);
        Edge.sameText("the first", desk.letters(0), first);
        Edge.sameText("the second, its own SCOPE", desk.letters(1), second);
        String again = "person;person;person;" + desk.letters(0) + desk.letters(1);
        Edge.same("told again", desk.tell(again), 5);
        Edge.sameText("the same", desk.letters(1), second);
    }

    private static void letterForm() {
        Edge.of(LETTER, "in the order told above, numbers rising, one blank between TOKENS, ; without one ahead):");
        String[] told = {"from 7 to 6 5 4 3 2 1 0 by 7 kinds 5 4 3 2 1 0 most 999 till 999 sub;",
            "from\n07  to 003\n001 by 01 kinds 5 00 most 000 till 000 ;", "from 0 to 7 by 1 kinds 3 most 009;",
            " under  000 to 4 2 by 002 kinds 1 most 010 till 099 sub  ;", "from 1 to 0 by 1 kinds 0 most 99 sub;",
            "from 1 to 0 by 1 kinds 0 most 100 till 10;"};
        String[] due = {"from 7 to 0 1 2 3 4 5 6 by 7 kinds 0 1 2 3 4 5 most 999 till 999 sub;",
            "from 7 to 1 3 by 1 kinds 0 5 most 0 till 0;", "from 0 to 7 by 1 kinds 3 most 9;",
            "under 0 to 2 4 by 2 kinds 1 most 10 till 99 sub;", "from 1 to 0 by 1 kinds 0 most 99 sub;",
            "from 1 to 0 by 1 kinds 0 most 100 till 10;"};
        Desk desk = new Desk(EIGHT + String.join("", told));
        for (int power = 0; power < due.length; power++) {
            Edge.sameText("POWER " + power, desk.letters(power), due[power]);
        }
        String sub = "from 0 to 1 by 1 kinds 0 most 1 sub;";
        Desk deep = new Desk("person;person;" + Probe.times(sub, 11) + "under 9 to 1 by 1 kinds 0 most 1;"
            + "under 10 to 1 by 1 kinds 0 most 1;");
        Edge.sameText("under 9", deep.letters(11), "under 9 to 1 by 1 kinds 0 most 1;");
        Edge.sameText("under 10", deep.letters(12), "under 10 to 1 by 1 kinds 0 most 1;");
        String longest = "under 10 to 1 2 3 4 5 6 7 by 7 kinds 0 1 2 3 4 5 most 999 till 999 sub;";
        Desk wide = new Desk(EIGHT + Probe.times(sub, 11) + longest);
        Edge.sameText("the longest", wide.letters(11), longest);
    }

    private static void letterBehind() {
        Edge.of(LETTER, "its i-th byte; NONE behind it, no such ones.");
        String line = "from 0 to 1 by 1 kinds 0 most 1;";
        Desk desk = new Desk("person;person;" + line + line);
        for (int i = 0; i < line.length(); i++) {
            Edge.same("letter(1, " + i + ")", desk.letter(1, i), line.charAt(i));
        }
        Edge.same("the first is 0", desk.letter(0, 0), 'f');
        Edge.same("the last", desk.letter(0, line.length() - 1), ';');
        for (int i : Edge.outside(line.length())) {
            Edge.same("letter(0, " + i + ")", desk.letter(0, i), -1);
        }
        for (int power : Edge.outside(2)) {
            Edge.same("letter(" + power + ", 0)", desk.letter(power, 0), -1);
        }
        // a LINE of 69 bytes, then a shorter one: what stood behind it is gone
        Desk two = new Desk(EIGHT + "from 7 to 0 1 2 3 4 5 6 by 7 kinds 0 1 2 3 4 5 most 999 till 999 sub;" + line);
        Edge.same("the last of 69", two.letter(0, 68), ';');
        Edge.same("behind 69", two.letter(0, 69), -1);
        Edge.same("the last of 32", two.letter(1, 31), ';');
        Edge.same("behind 32", two.letter(1, 32), -1);
    }
}
