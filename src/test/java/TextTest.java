/** Promises 1 to 5: a new object, the tape, a TEXT and its FAULTS. */
public final class TextTest {
    private static final String TWO = "person;person;";
    private static final String LINE = "from 0 to 1 by 1 kinds 0 most 1;";

    public static void main(String[] args) {
        aNewObject();
        feedAndEnd();
        goodTexts();
        emptiesTheTapeAndStartsAnew();
        faultsOfTokens();
        faultsOfPlace();
        faultsOfNumbers();
        faultsOfParties();
        tooMany();
        longTexts();
        aFaultLeavesAll();
        Probe.finish("TextTest");
    }

    private static void aNewObject() {
        AuthorityBook book = new AuthorityBook();
        for (int what = 0; what <= 7; what++) {
            Probe.same("new: now(" + what + ")", book.now(what), 0);
        }
        Probe.same("new: fault()", book.fault(), 0);
        Probe.same("new: text()", book.text(), 0);
        Probe.same("new: scope", book.scope(0, 0, 0), -1);
        Probe.same("new: die", book.die(0), -1);
    }

    private static void feedAndEnd() {
        AuthorityBook book = new AuthorityBook();
        Probe.yes("end(0) of none", book.end(0));
        Probe.yes("end(1) of none", !book.end(1));
        for (int i = 1; i <= 42; i++) {
            Probe.same("feed " + i, book.feed(0, -1, 2, 3, 4), 20 * i);
        }
        Probe.same("feed 43", book.feed(0, 0, 0, 0, 0), -1);
        Probe.same("bytes", book.now(7), 840);
        Probe.yes("end(841)", !book.end(841));
        Probe.yes("end(-1)", !book.end(-1));
        Probe.yes("end(MIN)", !book.end(Integer.MIN_VALUE));
        Probe.yes("end(MAX)", !book.end(Integer.MAX_VALUE));
        Probe.yes("end(840)", book.end(840));
        Probe.yes("end(821)", book.end(821));
        Probe.same("feed at 821", book.feed(0, 0, 0, 0, 0), -1);
        Probe.yes("end(820)", book.end(820));
        Probe.yes("end(821) of 820", !book.end(821));
        Probe.same("feed at 820", book.feed(0, 0, 0, 0, 0), 840);

        AuthorityBook other = new AuthorityBook();
        int[] f = Probe.fives("person;firm;firm;x y", 0);
        other.feed(f[0], f[1], f[2], f[3], f[4]);
        Probe.yes("end(17)", other.end(17));
        Probe.same("the highest byte first", other.text(), 3);
        Probe.same("firms", other.now(5), 6);
    }

    private static void good(String text, int lines) {
        AuthorityBook book = new AuthorityBook();
        Probe.same("text " + text, Probe.text(book, text), lines);
        Probe.same("fault of " + text, book.fault(), 0);
        Probe.same("bytes behind " + text, book.now(7), 0);
    }

    private static void goodTexts() {
        good("", 0);
        good(" \n ", 0);
        good("person;", 1);
        good("\nperson\n;firm ;\n", 2);
        good(TWO + LINE, 3);
        good(TWO + "from\n0\nto\n1\nby\n1\nkinds\n0\nmost\n1\n;", 3);
        good(TWO + "from 00 to 001 by 01 kinds 005 most 000 till 000 sub;under 000 to 1 by 1 kinds 5 most 999;", 4);
        good(TWO + "from 0 to 1 by 1 kinds 5 4 3 2 1 0 most 999 till 999;", 3);
        good(TWO + "from 0 to 1 by 1 kinds 0 most 999 sub;under 0 to 1 by 1 kinds 1 most 5 sub;person;"
            + "under 1 to 2 1 by 2 kinds 1 most 5;", 6);
        good(Probe.times("firm;", 8) + "from 7 to 6 5 4 3 2 1 0 by 7 kinds 0 most 0;", 9);
    }

    private static void emptiesTheTapeAndStartsAnew() {
        AuthorityBook book = Probe.book(TWO + "person;" + LINE);
        book.days(5);
        book.narrow(0, 1, 0);
        book.enter(0, false);
        book.does(2, 0, 2, 0, 1);
        book.finish(0);
        book.notice(2, 0);
        book.enter(0, true);
        book.die(1);
        Probe.same("things", book.now(2), 7);
        Probe.same("the same text again", Probe.text(book, TWO + "person;" + LINE), 4);
        int[] due = {3, 1, 0, 0, 0, 0, 0, 0};
        for (int what = 0; what <= 7; what++) {
            Probe.same("anew: now(" + what + ")", book.now(what), due[what]);
        }
        for (int what = 0; what <= 2; what++) {
            Probe.same("anew: entry(0, " + what + ")", book.entry(0, what), -1);
        }
        Probe.same("anew: amount", book.scope(0, 0, 2), 1);
        Probe.same("anew: over", book.over(0), 0);
        Probe.same("anew: can", book.can(2, 0, 0, 1), 0);
        Probe.same("anew: act", Probe.act(book, 0, 0), Probe.THROWN);
        Probe.same("anew: no ended", book.notice(2, 0), -3);
        Probe.same("anew: does", book.does(2, 0, 2, 0, 1), 0);
        Probe.same("anew: its day", book.act(0, 6), 0);
        book.finish(0);
        Probe.same("anew: no notice", book.notice(2, 0), 3);
        Probe.same("anew: bytes gone", book.text(), 0);
        Probe.same("anew: no parties", book.now(0), 0);
    }

    private static void bad(String text, int place, int kind) {
        AuthorityBook book = new AuthorityBook();
        Probe.same("text " + text, Probe.text(book, text), -1 - place);
        Probe.same("fault of " + text, book.fault(), kind);
        Probe.same("bytes behind " + text, book.now(7), 0);
        Probe.same("parties behind " + text, book.now(0), 0);
    }

    private static void faultsOfTokens() {
        bad("Person;", 0, 1);
        bad(" persons;", 1, 1);
        bad("person,", 6, 1);
        bad("person\t;", 6, 1);
        bad("person\r;", 6, 1);
        bad("person" + (char) 0 + ";", 6, 1);
        bad("person" + (char) 255 + ";", 6, 1);
        bad("person" + (char) 0xBB + ";", 6, 1);
        bad("person1;", 0, 1);
        bad("personz;", 0, 1);
        bad("aperson;", 0, 1);
        bad("person0;", 0, 1);
        bad("9person;", 0, 1);
        bad("person`;", 6, 1);
        bad("person{;", 6, 1);
        bad("person/;", 6, 1);
        bad("person:;", 6, 1);
        bad(TWO + "from0 to 1 by 1 kinds 0 most 1;", 14, 1);
        bad(TWO + "from 0to 1 by 1 kinds 0 most 1;", 19, 1);
        bad(TWO + "from 0000 to 1 by 1 kinds 0 most 1;", 19, 1);
        bad(TWO + "from 0 to 1 by 1 kinds 0 most 1000;", 44, 1);
        bad(TWO + "from 0 to 1 by 1 kinds 0 most 1234567890123;", 44, 1);
        bad(TWO + "from 0 to 1 by 1 kinds 0 most -1;", 44, 1);
        bad(TWO + "from 0 to 1 by 1 kinds 0 most 1a2;", 44, 1);
    }

    private static void faultsOfPlace() {
        bad(";", 0, 1);
        bad("person;;", 7, 1);
        bad("person", 6, 1);
        bad("person  ", 8, 1);
        bad("person person;", 7, 1);
        bad("firm 0;", 5, 1);
        bad("0;", 0, 1);
        bad("to;", 0, 1);
        bad(TWO + "from;", 18, 1);
        bad(TWO + "from to 1 by 1 kinds 0 most 1;", 19, 1);
        bad(TWO + "under to 1 by 1 kinds 0 most 1;", 20, 1);
        bad(TWO + "from 0 1 by 1 kinds 0 most 1;", 21, 1);
        bad(TWO + "from 0 to by 1 kinds 0 most 1;", 24, 1);
        bad(TWO + "from 0 to 1 kinds 0 most 1;", 26, 1);
        bad(TWO + "from 0 to 1 by kinds 0 most 1;", 29, 1);
        bad(TWO + "from 0 to 1 by 1 1 kinds 0 most 1;", 31, 1);
        bad(TWO + "from 0 to 1 by 1 kinds most 1;", 37, 1);
        bad(TWO + "from 0 to 1 by 1 most 1;", 31, 1);
        bad(TWO + "from 0 to 1 by 1 kinds 0;", 38, 1);
        bad(TWO + "from 0 to 1 by 1 kinds 0 most;", 43, 1);
        bad(TWO + "from 0 to 1 by 1 kinds 0 most 1 2;", 46, 1);
        bad(TWO + "from 0 to 1 by 1 kinds 0 most 1 till;", 50, 1);
        bad(TWO + "from 0 to 1 by 1 kinds 0 most 1 till sub;", 51, 1);
        bad(TWO + "from 0 to 1 by 1 kinds 0 most 1 sub till 3;", 50, 1);
        bad(TWO + "from 0 to 1 by 1 kinds 0 most 1 sub sub;", 50, 1);
        bad(TWO + "from 0 to 1 by 1 kinds 0 most 1 till 3 till 3;", 53, 1);
        bad(TWO + "from 0 to 1 by 1 kinds 0 most 1", 45, 1);
        bad(TWO + "from 0 to 1 by 1 kinds 0 most 1 \n", 47, 1);
        bad(TWO + "from 0 to 1 by 1 kinds 0 most 1 person;", 46, 1);
    }

    private static void faultsOfNumbers() {
        bad(TWO + "from 0 to 1 by 0 kinds 0 most 1;", 29, 2);
        bad(TWO + "from 0 to 1 by 2 kinds 0 most 1;", 29, 2);
        bad(TWO + "person;from 0 to 1 2 by 3 kinds 0 most 1;", 38, 2);
        bad(TWO + "from 0 to 1 by 1 kinds 6 most 1;", 37, 2);
        bad(TWO + "from 0 to 1 by 1 kinds 0 1 999 most 1;", 41, 2);
        bad(TWO + "from 0 to 1 by 0 kinds 6 boss;", 29, 2);
    }

    private static void faultsOfParties() {
        bad(TWO + "from 2 to 1 by 1 kinds 0 most 1;person;", 19, 3);
        bad(TWO + "from 999 to 1 by 1 kinds 0 most 1;", 19, 3);
        bad(TWO + "from 0 to 2 by 1 kinds 0 most 1;person;", 24, 3);
        bad(TWO + "from 0 to 0 by 1 kinds 0 most 1;", 24, 3);
        bad(TWO + "from 0 to 1 1 by 1 kinds 0 most 1;", 26, 3);
        bad(TWO + "from 0 to 1 01 by 1 kinds 0 most 1;", 26, 3);
        bad(TWO + "from 0 to 1 0 by 1 kinds 0 most 1;", 26, 3);
        bad(TWO + "under 0 to 1 by 1 kinds 0 most 1;", 20, 3);
        bad(TWO + LINE + "under 0 to 1 by 1 kinds 0 most 1;", 52, 3);
        bad(TWO + "from 0 to 1 by 1 kinds 0 most 1 sub;under 1 to 1 by 1 kinds 0 most 1;", 56, 3);
        bad(TWO + "from 0 to 1 by 1 kinds 0 most 1 sub;under 0 to 0 by 1 kinds 0 most 1;", 61, 3);
        bad(TWO + "from 0 to 1 by 1 kinds 3 3 most 1;", 39, 3);
        bad(TWO + "from 0 to 1 by 1 kinds 3 0 03 most 1;", 41, 3);
    }

    private static void tooMany() {
        String eight = Probe.times("person;", 8);
        good(eight, 8);
        bad(eight + "person;", 56, 4);
        bad(eight + " firm boss", 57, 4);
        bad(eight + "firmx;", 56, 1);
        String twenty = TWO + Probe.times(LINE, 20);
        good(twenty, 22);
        good(twenty + "firm;", 23);
        bad(twenty + LINE, 654, 4);
        bad(twenty + "under boss", 654, 4);
        bad(twenty + "by", 654, 1);
        String full = Probe.times("firm;", 8) + Probe.times(LINE, 20);
        good(full, 28);
        good(full + "\n ", 28);
        bad(full + "firm;", 680, 4);
        bad(full + LINE, 680, 4);
        bad(full + "by", 680, 1);
        bad(full + ";", 680, 1);
    }

    private static void longTexts() {
        String filled = "person;" + Probe.times(" ", 786);
        good(filled + "person;", 2);
        bad(filled + "person; ", 800, 1);
        bad(filled + " person;", 800, 1);
        bad(filled + "person", 799, 1);
        bad(filled + " person", 800, 1);
        bad(filled + "     person", 800, 1);
        bad(filled + "     persom", 798, 1);
        bad(filled + "       person;", 800, 1);
        bad(filled + "       ;", 800, 1);
        bad(filled + "      ;", 799, 1);
        bad(Probe.times("\n", 840), 800, 1);
        bad(Probe.times("\n", 801), 800, 1);
        good(Probe.times("\n", 800), 0);
        bad(Probe.times("a", 840), 0, 1);
        bad(Probe.times(";", 840), 0, 1);
        bad(Probe.times(" ", 799) + Probe.times("7", 41), 799, 1);
        bad(Probe.times(" ", 799) + "firm;", 800, 1);
        bad(Probe.times(" ", 800) + "boss;", 800, 1);
        bad(Probe.times("person;", 8) + Probe.times(" ", 742) + "firm;", 798, 4);
        bad(TWO + Probe.times(" ", 781) + "from 2 to", 800, 1);
        bad(TWO + Probe.times(" ", 780) + "from 2 to", 799, 3);
        bad(TWO + Probe.times(" ", 780) + "from 999 to", 799, 3);
        bad(TWO + Probe.times(" ", 780) + "from 9999 to", 799, 1);
        bad(TWO + Probe.times(" ", 770) + "from 0 to 1 by 11 kinds 0 most 1;", 799, 2);
    }

    private static void aFaultLeavesAll() {
        AuthorityBook book = Probe.book(TWO + "firm;" + LINE);
        book.days(3);
        book.enter(0, false);
        book.does(2, 0, 2, 0, 1);
        Probe.same("a fault", Probe.text(book, "person;firm;from 1 to 0 by 1 kinds 4 most 7 sub;boss"), -49);
        Probe.same("its kind", book.fault(), 1);
        int[] due = {3, 1, 2, 3, 1, 4, 0, 0};
        for (int what = 0; what <= 7; what++) {
            Probe.same("behind a fault: now(" + what + ")", book.now(what), due[what]);
        }
        Probe.same("behind a fault: its giver", book.power(0, 0), 0);
        Probe.same("behind a fault: its kinds", book.power(0, 3), 1);
        Probe.same("behind a fault: entered", book.entry(0, 1), 1);
        Probe.same("behind a fault: binds", book.binds(0, 2), 1);
        Probe.same("another call leaves the fault", book.days(1) + book.fault(), 5);
        Probe.same("a good text", Probe.text(book, "person;"), 1);
        Probe.same("takes it away", book.fault(), 0);
    }
}
