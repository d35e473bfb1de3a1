/** The edges of promises 21 to 29, sentence by sentence: what is put down, and what is refused. */
public final class EdgesOfPutDownTest {
    private static final String NARROW = "Promise 21: narrow";
    private static final String FINISH = "Promise 22: finish";
    private static final String ENTER = "Promise 23: enter";
    private static final String NOTICE = "Promise 24: notice";
    private static final String DIE = "Promise 25: die";
    private static final String DOES = "Promise 26: does";
    private static final String APPROVE = "Promise 27: approve";
    private static final String GIVE_UP = "Promise 28: giveUp";
    private static final String DAYS = "Promise 29: days";
    /** PARTIES 0, 1 and 3 are persons, 2 is a firm; POWER 0 is handed on as 1, and 2 is another's. */
    private static final String TEXT = "person;person;firm;person;from 0 to 1 by 1 kinds 0 1 most 50 sub;"
        + "under 0 to 3 by 1 kinds 0 most 50;from 3 to 1 by 1 kinds 0 most 50;";

    public static void main(String[] args) {
        narrowTheMoment();
        narrowOfNone();
        narrowEnded();
        finishTheMoment();
        finishOfNone();
        finishAlready();
        finishWithoutGiver();
        enterTheMoment();
        enterOfNone();
        enterAlready();
        enterTooEarlyOrLate();
        noticeTheMoment();
        noticeOfNone();
        noticeAlready();
        noticeOfNoEnd();
        dieTheMoment();
        dieOfNone();
        dieAlready();
        doesItsNumber();
        doesOfNone();
        doesNoMore();
        doesOfTheDead();
        approveTheMoment();
        approveOfNone();
        approveAlready();
        approveGivenUp();
        approveOfTheDead();
        giveUpTheMoment();
        giveUpOfNone();
        giveUpAlready();
        giveUpWhatBinds();
        daysMore();
        daysOfNone();
        Edge.finish("EdgesOfPutDownTest", NARROW, FINISH, ENTER, NOTICE, DIE, DOES, APPROVE, GIVE_UP, DAYS);
    }

    /** What was refused behind the given state must have changed nothing. */
    private static void nothingChanged(Desk desk, String ahead) {
        Edge.sameText("what stands behind what was refused", desk.state(), ahead);
    }

    // ---- narrow

    private static void narrowTheMoment() {
        Edge.of(NARROW, "NARROWED: the MOMENT.");
        Desk desk = new Desk(TEXT);
        Edge.same("the first", desk.narrow(0, 63, 999), 1);
        Edge.same("the next", desk.narrow(2, 0, 0), 2);
        Edge.same("again", desk.narrow(0, 1, 49), 3);
        desk.die(3);
        Edge.same("one not LIVE that is not ENDED", desk.narrow(1, 1, 1), 5);
        Edge.same("KINDS", desk.scope(0, 3, 1), 1);
        Edge.same("amount", desk.scope(0, 3, 2), 49);
        Edge.same("no KINDS, amount 0", desk.scope(2, 2, 1) + desk.scope(2, 2, 2), 0);
    }

    private static void narrowOfNone() {
        Edge.of(NARROW, "NONE: no such POWER, KINDS (bits), amount (0 to 999), no more MOMENTS;");
        Desk desk = new Desk(TEXT);
        String ahead = desk.state();
        for (int power : Edge.outside(3)) {
            Edge.same("narrow(" + power + ", 1, 1)", desk.narrow(power, 1, 1), -1);
        }
        for (int kinds : new int[] {-1, 64, -64, 65, 127, 128, 1 << 30, Integer.MIN_VALUE, Integer.MIN_VALUE + 1,
            Integer.MAX_VALUE}) {
            Edge.same("narrow(0, " + kinds + ", 1)", desk.narrow(0, kinds, 1), -1);
        }
        for (int amount : Edge.outside(1000)) {
            Edge.same("narrow(0, 1, " + amount + ")", desk.narrow(0, 1, amount), -1);
        }
        nothingChanged(desk, ahead);
        Edge.same("the least of all", desk.narrow(0, 0, 0), 1);
        Edge.same("the greatest of all", desk.narrow(2, 63, 999), 2);
        desk.finish(2);
        Edge.same("wrong ones ahead of ENDED", desk.narrow(2, 64, 1), -1);
        Desk last = new Desk(TEXT);
        last.finish(2);
        last.passTo(299);
        Edge.same("at 300", last.narrow(1, 63, 999), 300);
        Edge.same("at 301", last.narrow(1, 63, 0), -1);
        Edge.same("at 301, of one that is ENDED", last.narrow(2, 63, 0), -1);
        Edge.same("not NARROWED", last.scope(1, 300, 2), 50);
    }

    private static void narrowEnded() {
        Edge.of(NARROW, "-2: ENDED.");
        Desk desk = new Desk(TEXT);
        Edge.same("ahead of its end", desk.narrow(0, 63, 40), 1);
        desk.finish(0);
        String ahead = desk.state();
        Edge.same("ENDED", desk.narrow(0, 63, 30), -2);
        nothingChanged(desk, ahead);
        Edge.same("the one under it is not", desk.narrow(1, 63, 30), 3);
        desk.days(99);
        desk.die(0);
        Edge.same("its giver's death is no end", desk.narrow(1, 63, 29), 5);
    }

    // ---- finish

    private static void finishTheMoment() {
        Edge.of(FINISH, "ENDED: the MOMENT.");
        Desk desk = new Desk(TEXT);
        Edge.same("the first", desk.finish(2), 1);
        Edge.same("the next", desk.finish(0), 2);
        Edge.same("one under it", desk.finish(1), 3);
        Edge.same("when", desk.entry(0, 0), 2);
        Desk dead = new Desk(TEXT);
        dead.die(1);
        Edge.same("one not LIVE, by its HOLDERS", dead.over(0), 4);
        Edge.same("can be ENDED", dead.finish(0), 2);
    }

    private static void finishOfNone() {
        Edge.of(FINISH, "NONE: no such one, no more MOMENTS;");
        Desk desk = new Desk(TEXT);
        String ahead = desk.state();
        for (int power : Edge.outside(3)) {
            Edge.same("finish(" + power + ")", desk.finish(power), -1);
        }
        nothingChanged(desk, ahead);
        Edge.same("the last one", desk.finish(2), 1);
        Desk last = new Desk(TEXT);
        last.finish(2);
        last.passTo(299);
        Edge.same("at 300", last.finish(1), 300);
        Edge.same("at 301", last.finish(0), -1);
        Edge.same("at 301, ENDED already", last.finish(2), -1);
        Edge.same("it is not ENDED", last.over(0), 0);
    }

    private static void finishAlready() {
        Edge.of(FINISH, "-2: ENDED already;");
        Desk desk = new Desk(TEXT);
        desk.finish(0);
        String ahead = desk.state();
        Edge.same("at once", desk.finish(0), -2);
        nothingChanged(desk, ahead);
        Edge.same("the one under it was not", desk.finish(1), 2);
        desk.die(0);
        Edge.same("ahead of a death", desk.finish(0), -2);
        Edge.same("when it was", desk.entry(0, 0), 1);
    }

    private static void finishWithoutGiver() {
        Edge.of(FINISH, "-3: who gave it has DIED.");
        Desk desk = new Desk(TEXT);
        desk.die(1);
        desk.die(0);
        String ahead = desk.state();
        Edge.same("has DIED", desk.finish(0), -3);
        Edge.same("of the one under it, too", desk.finish(1), -3);
        nothingChanged(desk, ahead);
        Edge.same("another's", desk.finish(2), 3);
        Desk other = new Desk(TEXT);
        other.die(3);
        Edge.same("another has DIED", other.finish(0), 2);
        Edge.same("this one has", other.finish(2), -3);
    }

    // ---- enter

    private static void enterTheMoment() {
        Edge.of(ENTER, "ENTERED (end false), or its end (true): the MOMENT.");
        Desk desk = new Desk(TEXT);
        Edge.same("ENTERED", desk.enter(0, false), 1);
        desk.finish(0);
        Edge.same("its end", desk.enter(0, true), 3);
        Edge.same("when", desk.entry(0, 1), 1);
        Edge.same("when its end", desk.entry(0, 2), 3);
        desk.die(0);
        Edge.same("one not LIVE that is not ENDED", desk.enter(1, false), 5);
    }

    private static void enterOfNone() {
        Edge.of(ENTER, "NONE: no such one, no more MOMENTS;");
        Desk desk = new Desk(TEXT);
        String ahead = desk.state();
        for (int power : Edge.outside(3)) {
            Edge.same("enter(" + power + ", false)", desk.enter(power, false), -1);
            Edge.same("enter(" + power + ", true)", desk.enter(power, true), -1);
        }
        nothingChanged(desk, ahead);
        Edge.same("the last one", desk.enter(2, false), 1);
        Desk last = new Desk(TEXT);
        last.enter(2, false);
        last.finish(2);
        last.passTo(298);
        Edge.same("at 299", last.enter(0, false), 299);
        Edge.same("its end at 300", last.enter(2, true), 300);
        Edge.same("at 301", last.enter(1, false), -1);
        Edge.same("at 301, ENTERED already", last.enter(0, false), -1);
        Edge.same("at 301, its end already", last.enter(2, true), -1);
        Edge.same("at 301, its end without one", last.enter(0, true), -1);
        Edge.same("not ENTERED", last.entry(1, 1), -1);
    }

    private static void enterAlready() {
        Edge.of(ENTER, "-2: that is already;");
        Desk desk = new Desk(TEXT);
        desk.enter(0, false);
        Edge.same("ENTERED", desk.enter(0, false), -2);
        desk.finish(0);
        Edge.same("ENTERED, and ENDED since", desk.enter(0, false), -2);
        desk.enter(0, true);
        String ahead = desk.state();
        Edge.same("its end", desk.enter(0, true), -2);
        Edge.same("ENTERED as ever", desk.enter(0, false), -2);
        nothingChanged(desk, ahead);
        Edge.same("another is not", desk.enter(1, false), 4);
    }

    private static void enterTooEarlyOrLate() {
        Edge.of(ENTER, "-3: (false) it was ENDED, (true) it was not, or not ENTERED.");
        Desk desk = new Desk(TEXT);
        Edge.same("(true) neither", desk.enter(0, true), -3);
        desk.enter(0, false);
        Edge.same("(true) it was not ENDED", desk.enter(0, true), -3);
        desk.finish(1);
        String ahead = desk.state();
        Edge.same("(false) it was ENDED", desk.enter(1, false), -3);
        Edge.same("(true) not ENTERED", desk.enter(1, true), -3);
        nothingChanged(desk, ahead);
        desk.finish(0);
        Edge.same("(true) both", desk.enter(0, true), 4);
        Edge.same("(false) another", desk.enter(2, false), 5);
    }

    // ---- notice

    private static void noticeTheMoment() {
        Edge.of(NOTICE, "A PARTY has a NOTICE of the end of a POWER: the MOMENT.");
        Desk desk = new Desk(TEXT);
        desk.finish(0);
        Edge.same("the first", desk.notice(0, 0), 2);
        Edge.same("a firm", desk.notice(2, 0), 3);
        desk.enter(1, false);
        desk.finish(1);
        Edge.same("of another end", desk.notice(0, 1), 6);
        desk.die(3);
        Edge.same("nothing is said of the dead", desk.notice(3, 0), 8);
    }

    private static void noticeOfNone() {
        Edge.of(NOTICE, "NONE: no such ones, no more MOMENTS;");
        Desk desk = new Desk(TEXT);
        desk.finish(0);
        desk.finish(2);
        String ahead = desk.state();
        for (int party : Edge.outside(4)) {
            Edge.same("notice(" + party + ", 0)", desk.notice(party, 0), -1);
        }
        for (int power : Edge.outside(3)) {
            Edge.same("notice(0, " + power + ")", desk.notice(0, power), -1);
        }
        nothingChanged(desk, ahead);
        Edge.same("the last of both", desk.notice(3, 2), 3);
        Edge.same("the first of both", desk.notice(0, 0), 4);
        Desk last = new Desk(TEXT);
        last.finish(2);
        last.notice(1, 2);
        last.passTo(299);
        Edge.same("at 300", last.notice(0, 2), 300);
        Edge.same("at 301", last.notice(2, 2), -1);
        Edge.same("at 301, it has", last.notice(1, 2), -1);
        Edge.same("at 301, without an end", last.notice(1, 0), -1);
        Edge.same("no other MOMENT", last.moment(), 300);
    }

    private static void noticeAlready() {
        Edge.of(NOTICE, "-2: it has;");
        Desk desk = new Desk(TEXT);
        desk.finish(0);
        desk.finish(1);
        desk.notice(1, 0);
        String ahead = desk.state();
        Edge.same("it has", desk.notice(1, 0), -2);
        nothingChanged(desk, ahead);
        Edge.same("the one next to it has not", desk.notice(0, 0), 4);
        Edge.same("nor the other", desk.notice(2, 0), 5);
        Edge.same("nor of the next POWER", desk.notice(1, 1), 6);
    }

    private static void noticeOfNoEnd() {
        Edge.of(NOTICE, "-3: it was not ENDED.");
        Desk desk = new Desk(TEXT);
        String ahead = desk.state();
        Edge.same("not ENDED", desk.notice(1, 0), -3);
        nothingChanged(desk, ahead);
        desk.finish(0);
        Edge.same("the one under it was not", desk.notice(1, 1), -3);
        Edge.same("ENDED", desk.notice(1, 0), 2);
        desk.die(3);
        Edge.same("over by a death is not ENDED", desk.notice(1, 2), -3);
    }

    // ---- die

    private static void dieTheMoment() {
        Edge.of(DIE, "A PARTY DIES: the MOMENT.");
        Desk desk = new Desk(TEXT);
        for (int i = 0; i < 4; i++) {
            Edge.same("die(" + i + ")", desk.die(i), i + 1);
            Edge.same("bits", desk.now(6), (2 << i) - 1);
        }
    }

    private static void dieOfNone() {
        Edge.of(DIE, "NONE: no such one, no more MOMENTS;");
        Desk desk = new Desk(TEXT);
        String ahead = desk.state();
        for (int party : Edge.outside(4)) {
            Edge.same("die(" + party + ")", desk.die(party), -1);
        }
        nothingChanged(desk, ahead);
        Edge.same("the last", desk.die(3), 1);
        Desk eight = new Desk(Probe.times("firm;", 8));
        Edge.same("the eighth", eight.die(7), 1);
        Edge.same("a ninth", eight.die(8), -1);
        Desk last = new Desk(TEXT);
        last.die(3);
        last.passTo(299);
        Edge.same("at 300", last.die(2), 300);
        Edge.same("at 301", last.die(1), -1);
        Edge.same("at 301, one that has DIED", last.die(3), -1);
        Edge.same("who has DIED", last.now(6), 12);
    }

    private static void dieAlready() {
        Edge.of(DIE, "-2: it has DIED.");
        Desk desk = new Desk(TEXT);
        desk.die(2);
        String ahead = desk.state();
        Edge.same("a firm", desk.die(2), -2);
        nothingChanged(desk, ahead);
        Edge.same("the one ahead of it", desk.die(1), 2);
        Edge.same("the one behind it", desk.die(3), 3);
        Edge.same("a person", desk.die(1), -2);
    }

    // ---- does

    private static void doesItsNumber() {
        Edge.of(DOES, "An ACT: its number.");
        Desk desk = new Desk(TEXT);
        Edge.same("the first", desk.does(2, 0, 3, 0, 0), 0);
        desk.narrow(0, 63, 999);
        Edge.same("the next", desk.does(10, 2, 0, 5, 999), 1);
        Edge.same("its MOMENT is another", desk.act(1, 5), 3);
        Edge.same("ACTS", desk.now(4), 2);
    }

    private static void doesOfNone() {
        Edge.of(DOES, "NONE: no such ones (one person at least; the third neither of these nor the one in whose name; "
            + "KIND, amount),");
        Desk desk = new Desk(TEXT);
        String ahead = desk.state();
        for (int persons : new int[] {0, 1, 3, 4, 6, 16, 18, 256 + 2, -1, -2, Integer.MIN_VALUE, Integer.MIN_VALUE + 2,
            Integer.MAX_VALUE}) {
            Edge.same("does(" + persons + ", 0, 3, 0, 0)", desk.does(persons, 0, 3, 0, 0), -1);
        }
        for (int one : Edge.outside(4)) {
            Edge.same("does(2, " + one + ", 3, 0, 0)", desk.does(2, one, 3, 0, 0), -1);
            Edge.same("does(2, 0, " + one + ", 0, 0)", desk.does(2, 0, one, 0, 0), -1);
        }
        for (int kind : Edge.outside(6)) {
            Edge.same("does(2, 0, 3, " + kind + ", 0)", desk.does(2, 0, 3, kind, 0), -1);
        }
        for (int amount : Edge.outside(1000)) {
            Edge.same("does(2, 0, 3, 0, " + amount + ")", desk.does(2, 0, 3, 0, amount), -1);
        }
        Edge.same("the third acts", desk.does(2, 0, 1, 0, 0), -1);
        Edge.same("the third acts with another", desk.does(10, 0, 3, 0, 0), -1);
        Edge.same("the third is in whose name", desk.does(2, 0, 0, 0, 0), -1);
        nothingChanged(desk, ahead);
        Edge.same("the third is neither", desk.does(10, 0, 2, 0, 0), 0);
        Edge.same("the last KIND and amount", desk.does(2, 0, 3, 5, 999), 1);
        Edge.same("the first as third, the last in whose name", desk.does(2, 3, 0, 0, 0), 2);
        Edge.same("the last acts", desk.does(8, 0, 1, 0, 0), 3);
    }

    private static void doesNoMore() {
        Edge.of(DOES, "no more MOMENTS, 16 ACTS;");
        Desk desk = new Desk(TEXT);
        for (int i = 0; i < 16; i++) {
            Edge.same("ACT " + i, desk.does(2, 0, 2, 0, i), i);
        }
        Edge.same("a 17th", desk.does(2, 0, 2, 0, 16), -1);
        Edge.same("ACTS", desk.now(4), 16);
        Edge.same("no MOMENT for it", desk.moment(), 16);
        Edge.same("the 16th stands", desk.act(15, 4), 15);
        desk.die(2);
        Edge.same("a 17th with one that has DIED", desk.does(2, 0, 2, 0, 16), -1);
        Desk last = new Desk(TEXT);
        last.die(2);
        last.passTo(299);
        Edge.same("at 300", last.does(2, 0, 3, 0, 1), 0);
        Edge.same("at 301", last.does(2, 0, 3, 0, 1), -1);
        Edge.same("at 301, with one that has DIED", last.does(2, 0, 2, 0, 1), -1);
        Edge.same("ACTS at 300", last.now(4), 1);
    }

    private static void doesOfTheDead() {
        Edge.of(DOES, "-2: somebody of these PARTIES has DIED.");
        String six = Probe.times("person;", 6);
        for (int dead = 0; dead < 6; dead++) {
            Desk desk = new Desk(six);
            desk.die(dead);
            String ahead = desk.state();
            Edge.same(dead + " has DIED", desk.does(12, 1, 4, 0, 0), dead == 0 || dead == 5 ? 0 : -2);
            if (dead != 0 && dead != 5) {
                nothingChanged(desk, ahead);
            }
            Edge.same("wrong ones ahead of that", desk.does(12, 1, 4, 6, 0), -1);
        }
        Desk later = new Desk(six);
        Edge.same("ahead of a death", later.does(12, 1, 4, 0, 0), 0);
        later.die(4);
        Edge.same("behind it", later.does(12, 1, 4, 0, 0), -2);
        Edge.same("with another", later.does(12, 1, 5, 0, 0), 1);
    }

    // ---- approve

    private static void approveTheMoment() {
        Edge.of(APPROVE, "APPROVED: the MOMENT.");
        Desk desk = new Desk(TEXT);
        desk.does(2, 0, 3, 5, 1);
        desk.does(2, 0, 3, 0, 1);
        Edge.same("the first", desk.approve(0), 3);
        Edge.same("one that BINDS", desk.approve(1), 4);
        Edge.same("when", desk.act(0, 7), 3);
        Edge.same("when the other", desk.act(1, 7), 4);
    }

    private static void approveOfNone() {
        Edge.of(APPROVE, "NONE: no such ACT, no more MOMENTS;");
        Desk desk = new Desk(TEXT);
        Edge.same("none yet", desk.approve(0), -1);
        desk.does(2, 0, 3, 5, 1);
        desk.does(2, 0, 3, 5, 1);
        String ahead = desk.state();
        for (int act : Edge.outside(2)) {
            Edge.same("approve(" + act + ")", desk.approve(act), -1);
        }
        nothingChanged(desk, ahead);
        Edge.same("the last", desk.approve(1), 3);
        Desk last = new Desk(TEXT);
        for (int act = 0; act < 4; act++) {
            last.does(2, 0, 3, 5, 1);
        }
        last.approve(0);
        last.giveUp(1);
        last.passTo(299);
        Edge.same("at 300", last.approve(2), 300);
        Edge.same("at 301", last.approve(3), -1);
        Edge.same("at 301, APPROVED already", last.approve(0), -1);
        Edge.same("at 301, given up", last.approve(1), -1);
        Edge.same("not APPROVED", last.act(3, 7), -1);
    }

    private static void approveAlready() {
        Edge.of(APPROVE, "-2: it is;");
        Desk desk = new Desk(TEXT);
        desk.does(2, 0, 3, 5, 1);
        desk.does(2, 0, 3, 5, 1);
        desk.approve(0);
        String ahead = desk.state();
        Edge.same("it is", desk.approve(0), -2);
        nothingChanged(desk, ahead);
        Edge.same("the other is not", desk.approve(1), 4);
        desk.die(0);
        Edge.same("ahead of a death", desk.approve(0), -2);
    }

    private static void approveGivenUp() {
        Edge.of(APPROVE, "-3: it was given up;");
        Desk desk = new Desk(TEXT);
        desk.does(2, 0, 3, 5, 1);
        desk.does(2, 0, 3, 5, 1);
        desk.giveUp(0);
        String ahead = desk.state();
        Edge.same("given up", desk.approve(0), -3);
        nothingChanged(desk, ahead);
        Edge.same("the other was not", desk.approve(1), 4);
        desk.die(0);
        Edge.same("ahead of a death", desk.approve(0), -3);
    }

    private static void approveOfTheDead() {
        Edge.of(APPROVE, "-4: who should has DIED.");
        Desk desk = new Desk(TEXT);
        desk.does(2, 0, 3, 5, 1);
        desk.does(2, 2, 3, 5, 1);
        desk.die(1);
        desk.die(3);
        desk.die(0);
        String ahead = desk.state();
        Edge.same("has DIED", desk.approve(0), -4);
        nothingChanged(desk, ahead);
        Edge.same("of the other only who acted and the third have", desk.approve(1), 6);
    }

    // ---- giveUp

    private static void giveUpTheMoment() {
        Edge.of(GIVE_UP, "Given up by its third: the MOMENT.");
        Desk desk = new Desk(TEXT);
        desk.does(2, 0, 3, 5, 1);
        desk.does(2, 0, 3, 5, 1);
        Edge.same("the last", desk.giveUp(1), 3);
        desk.die(3);
        desk.die(0);
        Edge.same("nothing is said of the dead", desk.giveUp(0), 6);
        Edge.same("when", desk.act(1, 8), 3);
        Edge.same("when the other", desk.act(0, 8), 6);
    }

    private static void giveUpOfNone() {
        Edge.of(GIVE_UP, "NONE: no such one, no more MOMENTS;");
        Desk desk = new Desk(TEXT);
        Edge.same("none yet", desk.giveUp(0), -1);
        desk.does(2, 0, 3, 5, 1);
        desk.does(2, 0, 3, 5, 1);
        String ahead = desk.state();
        for (int act : Edge.outside(2)) {
            Edge.same("giveUp(" + act + ")", desk.giveUp(act), -1);
        }
        nothingChanged(desk, ahead);
        Edge.same("the last", desk.giveUp(1), 3);
        Desk last = new Desk(TEXT);
        for (int act = 0; act < 4; act++) {
            last.does(2, 0, 3, act == 3 ? 0 : 5, 1);
        }
        last.giveUp(0);
        last.passTo(299);
        Edge.same("at 300", last.giveUp(1), 300);
        Edge.same("at 301", last.giveUp(2), -1);
        Edge.same("at 301, given up already", last.giveUp(0), -1);
        Edge.same("at 301, one that BINDS", last.giveUp(3), -1);
        Edge.same("not given up", last.act(2, 8), -1);
    }

    private static void giveUpAlready() {
        Edge.of(GIVE_UP, "-2: it was;");
        Desk desk = new Desk(TEXT);
        desk.does(2, 0, 3, 5, 1);
        desk.does(2, 0, 3, 5, 1);
        desk.giveUp(0);
        String ahead = desk.state();
        Edge.same("it was", desk.giveUp(0), -2);
        nothingChanged(desk, ahead);
        Edge.same("the other was not", desk.giveUp(1), 4);
    }

    private static void giveUpWhatBinds() {
        Edge.of(GIVE_UP, "-3: it BINDS (as known now).");
        Desk desk = new Desk(TEXT);
        desk.does(2, 0, 3, 0, 50);
        desk.does(2, 0, 3, 0, 51);
        desk.does(2, 0, 3, 5, 1);
        desk.enter(0, false);
        desk.finish(0);
        desk.does(2, 0, 3, 0, 50);
        desk.does(2, 0, 3, 0, 51);
        desk.approve(2);
        String ahead = desk.state();
        Edge.same("by POWER", desk.giveUp(0), -3);
        Edge.same("by APPROVAL", desk.giveUp(2), -3);
        Edge.same("by APPEARANCE", desk.giveUp(3), -3);
        nothingChanged(desk, ahead);
        Edge.same("next to the one by POWER", desk.giveUp(1), 9);
        Edge.same("next to the one by APPEARANCE", desk.giveUp(4), 10);
    }

    // ---- days

    private static void daysMore() {
        Edge.of(DAYS, "The DAY is n (1 to 99) more: which.");
        Desk desk = new Desk(TEXT);
        Edge.same("days(1)", desk.days(1), 1);
        Edge.same("days(2)", desk.days(2), 3);
        Edge.same("days(98)", desk.days(98), 101);
        Edge.same("days(99)", desk.days(99), 200);
        Edge.same("the DAY", desk.now(3), 200);
        Edge.same("no MOMENT", desk.moment(), 0);
        Desk none = new Desk();
        Edge.same("without a TEXT", none.days(1), 1);
        Desk last = new Desk(TEXT);
        last.passTo(300);
        Edge.same("behind the last MOMENT", last.days(99), 99);
    }

    private static void daysOfNone() {
        Edge.of(DAYS, "NONE: another n, above 999.");
        Desk desk = new Desk(TEXT);
        String ahead = desk.state();
        for (int n : new int[] {0, -1, 100, 101, -99, 256 + 1, 65536 + 1, Integer.MIN_VALUE, Integer.MIN_VALUE + 1,
            Integer.MAX_VALUE}) {
            Edge.same("days(" + n + ")", desk.days(n), -1);
        }
        nothingChanged(desk, ahead);
        for (int i = 1; i <= 9; i++) {
            Edge.same("days(99)", desk.days(99), 99 * i);
        }
        Edge.same("to 901", desk.days(10), 901);
        Edge.same("above 999 by one", desk.days(99), -1);
        Edge.same("the DAY stays", desk.now(3), 901);
        Edge.same("to 999", desk.days(98), 999);
        for (int n : new int[] {1, 99, 0, 100, Integer.MAX_VALUE}) {
            Edge.same("days(" + n + ") on DAY 999", desk.days(n), -1);
        }
        Edge.same("the DAY", desk.now(3), 999);
        Desk next = new Desk(TEXT);
        for (int i = 0; i < 10; i++) {
            next.days(99);
        }
        Edge.same("to 998", next.days(8), 998);
        Edge.same("above 999 by one", next.days(2), -1);
        Edge.same("to 999", next.days(1), 999);
    }
}
