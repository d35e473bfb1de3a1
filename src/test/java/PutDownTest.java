/** Promises 21 to 29: what is put down, in which order it is refused, and the limits. */
public final class PutDownTest {
    private static final String TEXT = "person;person;firm;person;from 0 to 1 by 1 kinds 0 1 most 50 sub;"
        + "under 0 to 3 by 1 kinds 0 most 50;from 3 to 1 by 1 kinds 0 most 50;";

    public static void main(String[] args) {
        narrowing();
        finishing();
        entering();
        noticing();
        dying();
        doing();
        approving();
        givingUp();
        daysGoOn();
        noMoreMoments();
        sixteenActs();
        Probe.finish("PutDownTest");
    }

    private static void narrowing() {
        AuthorityBook book = Probe.book(TEXT);
        int[][] none = {{-1, 0, 0}, {3, 0, 0}, {0, -1, 0}, {0, 64, 0}, {0, Integer.MIN_VALUE, 0}, {0, 0, -1}, {0, 0, 1000}};
        for (int[] n : none) {
            Probe.same("narrow(" + n[0] + ", " + n[1] + ", " + n[2] + ")", book.narrow(n[0], n[1], n[2]), -1);
        }
        Probe.same("nothing was put down", book.now(2), 0);
        Probe.same("to all", book.narrow(0, 63, 999), 1);
        Probe.same("nothing changed", book.scope(0, 1, 1) * 100 + book.scope(0, 1, 2), 350);
        Probe.same("to no kinds", book.narrow(0, 0, 0), 2);
        Probe.same("none is left", book.scope(0, 2, 1) + book.scope(0, 2, 2), 0);
        Probe.same("it is LIVE still", book.over(0), 0);
        Probe.same("no wider again", book.narrow(0, 63, 999), 3);
        Probe.same("none is left still", book.scope(0, 3, 1) + book.scope(0, 3, 2), 0);
        book.finish(0);
        Probe.same("ENDED", book.narrow(0, 1, 1), -2);
        Probe.same("the one under it is not ENDED", book.narrow(1, 1, 1), 5);
        Probe.same("wrong ones first", book.narrow(0, 64, 1), -1);
    }

    private static void finishing() {
        AuthorityBook book = Probe.book(TEXT);
        Probe.same("finish(-1)", book.finish(-1), -1);
        Probe.same("finish(3)", book.finish(3), -1);
        Probe.same("finish(1)", book.finish(1), 1);
        Probe.same("already", book.finish(1), -2);
        book.die(0);
        Probe.same("already is ahead of DIED", book.finish(1), -2);
        Probe.same("who gave it has DIED", book.finish(0), -3);
        Probe.same("another's", book.finish(2), 3);
        Probe.same("when", book.entry(2, 0), 3);
    }

    private static void entering() {
        AuthorityBook book = Probe.book(TEXT);
        Probe.same("enter(-1)", book.enter(-1, false), -1);
        Probe.same("enter(3)", book.enter(3, true), -1);
        Probe.same("no end", book.enter(0, true), -3);
        Probe.same("ENTERED", book.enter(0, false), 1);
        Probe.same("twice", book.enter(0, false), -2);
        Probe.same("no end yet", book.enter(0, true), -3);
        book.finish(0);
        Probe.same("twice, though ENDED", book.enter(0, false), -2);
        Probe.same("its end", book.enter(0, true), 3);
        Probe.same("its end twice", book.enter(0, true), -2);
        book.finish(2);
        Probe.same("ENDED, never ENTERED", book.enter(2, true), -3);
        Probe.same("too late", book.enter(2, false), -3);
        book.die(0);
        Probe.same("one not LIVE can be ENTERED", book.enter(1, false), 6);
    }

    private static void noticing() {
        AuthorityBook book = Probe.book(TEXT);
        Probe.same("no such PARTY", book.notice(4, 0), -1);
        Probe.same("no PARTY below 0", book.notice(-1, 0), -1);
        Probe.same("no such POWER", book.notice(0, 3), -1);
        Probe.same("no POWER below 0", book.notice(0, -1), -1);
        Probe.same("not ENDED", book.notice(1, 0), -3);
        book.finish(0);
        Probe.same("the one under it was not", book.notice(1, 1), -3);
        Probe.same("a NOTICE", book.notice(1, 0), 2);
        Probe.same("has it", book.notice(1, 0), -2);
        Probe.same("another has none", book.notice(2, 0), 3);
        book.die(3);
        Probe.same("whoever", book.notice(3, 0), 5);
    }

    private static void dying() {
        AuthorityBook book = Probe.book(TEXT);
        Probe.same("die(-1)", book.die(-1), -1);
        Probe.same("die(4)", book.die(4), -1);
        Probe.same("die(2)", book.die(2), 1);
        Probe.same("again", book.die(2), -2);
        Probe.same("bits", book.now(6), 4);
    }

    private static void doing() {
        AuthorityBook book = Probe.book(TEXT);
        int[][] none = {{0, 0, 3, 0, 0}, {1, 0, 3, 0, 0}, {4, 0, 3, 0, 0}, {16, 0, 3, 0, 0}, {-2, 0, 3, 0, 0},
            {2, -1, 3, 0, 0}, {2, 4, 3, 0, 0}, {2, 0, 0, 0, 0}, {2, 0, 1, 0, 0}, {2, 0, 4, 0, 0}, {2, 0, -1, 0, 0},
            {2, 0, 3, 6, 0}, {2, 0, 3, -1, 0}, {2, 0, 3, 0, 1000}, {2, 0, 3, 0, -1}, {2, 0, 33, 0, 0}};
        for (int[] n : none) {
            Probe.same("does " + n[0] + " " + n[1] + " " + n[2] + " " + n[3] + " " + n[4],
                book.does(n[0], n[1], n[2], n[3], n[4]), -1);
        }
        Probe.same("its number", book.does(2, 0, 2, 0, 0), 0);
        Probe.same("the next", book.does(10, 2, 0, 5, 999), 1);
        Probe.same("MOMENTS", book.now(2), 2);
        book.die(3);
        Probe.same("a person has DIED", book.does(10, 0, 2, 0, 0), -2);
        Probe.same("the third has DIED", book.does(2, 0, 3, 0, 0), -2);
        Probe.same("the one in whose name has DIED", book.does(2, 3, 0, 0, 0), -2);
        Probe.same("wrong ones first", book.does(10, 0, 2, 6, 0), -1);
        Probe.same("others", book.does(2, 0, 2, 0, 0), 2);
    }

    private static void approving() {
        AuthorityBook book = Probe.book(TEXT);
        book.does(2, 0, 2, 2, 0);
        book.does(2, 0, 2, 2, 0);
        book.does(2, 0, 2, 0, 0);
        book.does(2, 3, 2, 2, 0);
        Probe.same("approve(-1)", book.approve(-1), -1);
        Probe.same("approve(4)", book.approve(4), -1);
        Probe.same("approve(0)", book.approve(0), 5);
        Probe.same("it is", book.approve(0), -2);
        book.giveUp(1);
        Probe.same("given up", book.approve(1), -3);
        Probe.same("one that BINDS already", book.approve(2), 7);
        book.die(0);
        book.die(3);
        Probe.same("it is, though DIED", book.approve(0), -2);
        Probe.same("given up, though DIED", book.approve(1), -3);
        Probe.same("DIED", book.approve(3), -4);
    }

    private static void givingUp() {
        AuthorityBook book = Probe.book(TEXT);
        book.does(2, 0, 2, 2, 0);
        book.does(2, 0, 2, 0, 0);
        book.does(2, 0, 2, 2, 0);
        book.enter(0, false);
        book.finish(0);
        book.does(2, 0, 2, 0, 0);
        book.does(2, 0, 2, 2, 0);
        Probe.same("giveUp(-1)", book.giveUp(-1), -1);
        Probe.same("giveUp(5)", book.giveUp(5), -1);
        Probe.same("giveUp(0)", book.giveUp(0), 8);
        Probe.same("it was", book.giveUp(0), -2);
        Probe.same("by POWER", book.giveUp(1), -3);
        Probe.same("by APPEARANCE", book.giveUp(3), -3);
        book.approve(2);
        Probe.same("by APPROVAL", book.giveUp(2), -3);
        book.die(2);
        Probe.same("nothing is said of a third that has DIED", book.giveUp(4), 11);
    }

    private static void daysGoOn() {
        AuthorityBook book = new AuthorityBook();
        for (int n : new int[] {0, -1, 100, Integer.MIN_VALUE, Integer.MAX_VALUE}) {
            Probe.same("days(" + n + ")", book.days(n), -1);
        }
        for (int i = 1; i <= 10; i++) {
            Probe.same("days(99)", book.days(99), 99 * i);
        }
        Probe.same("above 999", book.days(10), -1);
        Probe.same("up to 999", book.days(9), 999);
        Probe.same("no more", book.days(1), -1);
        Probe.same("the DAY", book.now(3), 999);
        Probe.same("a DAY is no MOMENT", book.now(2), 0);
        Probe.same("a new TEXT", book.text(), 0);
        Probe.same("DAY 0", book.now(3), 0);
    }

    private static void noMoreMoments() {
        AuthorityBook book = Probe.book(TEXT);
        book.does(2, 0, 2, 0, 0);
        book.does(2, 0, 2, 2, 0);
        book.does(2, 0, 2, 2, 0);
        book.approve(1);
        book.finish(2);
        book.die(2);
        for (int i = 7; i <= 300; i++) {
            Probe.same("MOMENT " + i, book.narrow(0, 63, 999 - i), i);
        }
        Probe.same("narrow", book.narrow(0, 63, 1), -1);
        Probe.same("narrow one that is ENDED", book.narrow(2, 63, 1), -1);
        Probe.same("finish", book.finish(0), -1);
        Probe.same("finish again", book.finish(2), -1);
        Probe.same("enter", book.enter(0, false), -1);
        Probe.same("enter an end", book.enter(0, true), -1);
        Probe.same("notice", book.notice(0, 2), -1);
        Probe.same("notice of none", book.notice(0, 0), -1);
        Probe.same("die", book.die(1), -1);
        Probe.same("die again", book.die(2), -1);
        Probe.same("does", book.does(2, 0, 3, 0, 0), -1);
        Probe.same("does with one that has DIED", book.does(2, 0, 2, 0, 0), -1);
        Probe.same("approve", book.approve(2), -1);
        Probe.same("approve again", book.approve(1), -1);
        Probe.same("giveUp", book.giveUp(2), -1);
        Probe.same("giveUp of one that BINDS", book.giveUp(0), -1);
        Probe.same("MOMENTS", book.now(2), 300);
        Probe.same("as known then", book.binds(1, 300), 3);
        Probe.same("no such MOMENT", book.binds(1, 301), -1);
        Probe.same("scope then", book.scope(0, 300, 2), 50);
        Probe.same("DAYS go on", book.days(1), 1);
        Probe.same("what can be asked", book.can(2, 0, 0, 50), 0);
    }

    private static void sixteenActs() {
        AuthorityBook book = Probe.book(TEXT);
        for (int i = 0; i < 16; i++) {
            Probe.same("ACT " + i, book.does(2, 0, 2, i % 2, i), i);
        }
        Probe.same("a 17th", book.does(2, 0, 2, 0, 0), -1);
        book.die(2);
        Probe.same("a 17th with one that has DIED", book.does(2, 0, 2, 0, 0), -1);
        Probe.same("ACTS", book.now(4), 16);
        Probe.same("no MOMENT for it", book.now(2), 17);
        Probe.same("all hang on it", book.hang(0), 65535);
        Probe.same("all amounts", book.bound(0, 1), 120);
    }
}
