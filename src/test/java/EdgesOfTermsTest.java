/** The edges of what is put down, LIVE, CAN and BINDS: the second half of "Terms", sentence by sentence. */
public final class EdgesOfTermsTest {
    private static final String ANY = " kinds 0 1 2 3 4 5 most 999";
    private static final String FOUR = "person;person;firm;person;";
    private static final String SIX = "person;person;person;person;firm;firm;";

    public static void main(String[] args) {
        calls512();
        momentsUpTo300();
        givenAtMoment0();
        narrowed();
        endedByWhoGave();
        enteredAndNoticed();
        dies();
        acts();
        approvedAndGivenUp();
        liveTillEnded();
        liveTillItsDay();
        liveTillItsGiverDies();
        liveWithEnoughHolders();
        liveUnderALiveOne();
        scopeAsToldAndNarrowed();
        scopesMet();
        canByTheirOwnPower();
        canIfLiveAndPermitted();
        canIfEnoughAct();
        personsAct();
        firmsAct();
        threeFirms();
        theLeastNumberIsUsed();
        usedForFirms();
        judgedAsOfItsMoment();
        byPower();
        byAppearance();
        unlessItsEndWasEntered();
        orTheThirdHadANotice();
        byApproval();
        bindsNobodyElse();
        nowIsOnTheDay();
        noFirmsAndNotThatParty();
        whatCanBeApproved();
        aNewText();
        throwingChangesNothing();
        // EdgesOfTextTest tries what stands ahead of these words
        Edge.whole(Edge.TERMS, "MOMENTS:");
        Edge.finish("EdgesOfTermsTest");
    }

    private static void calls512() {
        Edge.of("What it is",
            "An object is used for at most 512 calls after it has been made; what later calls answer is free.");
        Desk desk = new Desk(FOUR + "from 0 to 1 by 1" + ANY + ";");
        while (desk.calls() < Desk.MOST_CALLS - 2) {
            desk.now(0);
        }
        Edge.same("the 511th call", desk.die(1), 1);
        Edge.same("the 512th call", desk.over(0), 4);
        AuthorityBook book = new AuthorityBook();
        for (int i = 0; i < Desk.MOST_CALLS; i++) {
            book.feed(i, i, i, i, i);
        }
        // whatever it answers: rule 7 of LANGUAGE.md lets no call throw by itself
        book.text();
        book.does(1, 0, 1, 0, 0);
    }

    // ---- MOMENTS and what is put down

    private static void momentsUpTo300() {
        Edge.of(Edge.TERMS, "MOMENTS: those of the TEXT are 0; each thing that is put down gets the next one, 1, 2, .. "
            + "(300 at most), on the DAY as it is then (0 at first).");
        Desk first = new Desk(FOUR + "from 0 to 1 by 1" + ANY + " till 0;");
        Edge.same("of the TEXT", first.moment(), 0);
        first.does(2, 0, 3, 0, 1);
        first.days(1);
        Edge.same("a DAY is no thing that is put down", first.moment(), 1);
        first.does(2, 0, 3, 0, 1);
        Edge.same("the next one", first.moment(), 2);
        for (int act = 0; act < 2; act++) {
            Edge.same("its MOMENT", first.act(act, 5), act + 1);
            Edge.same("its DAY", first.act(act, 6), act);
            Edge.same("on that DAY", first.live(0, act + 1), 1 - act);
        }
        Edge.same("at MOMENT 0 on DAY 0", first.live(0, 0), 1);
        for (int thing = 0; thing < 9; thing++) {
            Desk desk = atLast();
            Edge.same("MOMENT 299", desk.moment(), 299);
            Edge.same("thing " + thing + " at 300", put(desk, thing, 0), thing == 6 ? 4 : 300);
            Edge.same("the last MOMENT", desk.moment(), 300);
            Edge.same("thing " + thing + " at 301", put(desk, thing, 1), -1);
            Edge.same("no other MOMENT", desk.moment(), 300);
            Edge.same("a DAY still comes", desk.days(1), 1);
        }
    }

    /** At MOMENT 299, with two of each for all things that can be put down. */
    private static Desk atLast() {
        Desk desk = new Desk(FOUR + "from 0 to 1 by 1 kinds 0 most 9;from 0 to 1 by 1 kinds 1 most 9;"
            + "from 0 to 1 by 1 kinds 1 most 9;from 0 to 1 by 1 kinds 1 most 9;");
        for (int act = 0; act < 4; act++) {
            desk.does(2, 0, 3, 5, 1);
        }
        for (int power = 2; power < 4; power++) {
            desk.enter(power, false);
            desk.finish(power);
        }
        desk.passTo(299);
        return desk;
    }

    private static int put(Desk desk, int thing, int one) {
        switch (thing) {
            case 0: return desk.narrow(one, 1, 1);
            case 1: return desk.finish(one);
            case 2: return desk.enter(one, false);
            case 3: return desk.enter(2 + one, true);
            case 4: return desk.notice(one, 2);
            case 5: return desk.die(one);
            case 6: return desk.does(2, 0, 2 + one, 0, 1);
            case 7: return desk.approve(one);
            default: return desk.giveUp(one);
        }
    }

    private static void givenAtMoment0() {
        Edge.of(Edge.TERMS, "All POWERS of a TEXT are given at MOMENT 0.");
        Desk desk = new Desk("person;person;from 0 to 1 by 1 kinds 0 most 9 sub;"
            + Probe.times("under 0 to 1 by 1 kinds 0 most 9;", 19));
        desk.die(1);
        for (int power = 0; power < 20; power++) {
            Edge.same("LIVE at 0", desk.live(power, 0), 1);
            Edge.same("ahead of it", desk.live(power, -1), -1);
            Edge.same("behind it", desk.live(power, 1), 0);
        }
        Edge.same("there is no 20", desk.live(20, 0), -1);
    }

    private static void narrowed() {
        Edge.of(Edge.TERMS, "What is put down: a POWER NARROWED (from then on its KINDS are only those that are told, "
            + "too, its greatest amount no more than that told);");
        int[] to = {999, 51, 50, 49, 0};
        int[] left = {50, 50, 50, 49, 0};
        for (int i = 0; i < to.length; i++) {
            Desk desk = new Desk(FOUR + "from 0 to 1 by 1 kinds 0 1 most 50;");
            desk.narrow(0, 63, to[i]);
            Edge.same("ahead of it", desk.scope(0, 0, 2), 50);
            Edge.same("from then on, to " + to[i], desk.scope(0, 1, 2), left[i]);
            Edge.same("just so much", desk.can(2, 0, 0, left[i]), 0);
            Edge.same("one more", desk.can(2, 0, 0, left[i] + 1), -2);
            desk.narrow(0, 63, left[i] + 1);
            Edge.same("never more again", desk.scope(0, 2, 2), left[i]);
        }
        int[] kinds = {63, 3, 2, 6, 4, 0};
        int[] those = {3, 3, 2, 2, 0, 0};
        for (int i = 0; i < kinds.length; i++) {
            Desk desk = new Desk(FOUR + "from 0 to 1 by 1 kinds 0 1 most 50;");
            desk.narrow(0, kinds[i], 999);
            Edge.same("ahead of it", desk.scope(0, 0, 1), 3);
            Edge.same("from then on", desk.scope(0, 1, 1), those[i]);
            Edge.same("KIND 1", desk.can(2, 0, 1, 50), (those[i] & 2) != 0 ? 0 : -2);
            Edge.same("KIND 2", desk.can(2, 0, 2, 50), -2);
            desk.narrow(0, 63, 999);
            Edge.same("never more again", desk.scope(0, 2, 1), those[i]);
        }
    }

    private static void endedByWhoGave() {
        Edge.of(Edge.TERMS, "ENDED (by who gave it);");
        String text = "person;person;person;from 0 to 1 by 1 kinds 0 most 9 sub;under 0 to 2 by 1 kinds 0 most 9;";
        Desk desk = new Desk(text);
        desk.die(1);
        Edge.same("who handed it on has DIED", desk.finish(1), 2);
        desk.die(2);
        Edge.same("its HOLDERS have DIED", desk.finish(0), 4);
        Desk other = new Desk(text);
        other.die(0);
        Edge.same("who gave it has DIED", other.finish(0), -3);
        Edge.same("who gave the one under it, too", other.finish(1), -3);
        Edge.same("nothing was put down", other.moment(), 1);
    }

    private static void enteredAndNoticed() {
        Edge.of(Edge.TERMS, "ENTERED (the public can see it), its end ENTERED; a NOTICE of its end that a PARTY has;");
        Desk desk = new Desk(FOUR + "from 0 to 1 by 1 kinds 0 most 9;");
        for (int what = 0; what < 3; what++) {
            Edge.same("none at first", desk.entry(0, what), -1);
        }
        Edge.same("ENTERED", desk.enter(0, false), 1);
        Edge.same("when", desk.entry(0, 1), 1);
        Edge.same("no end is", desk.entry(0, 2), -1);
        Edge.same("a NOTICE ahead of its end", desk.notice(3, 0), -3);
        desk.finish(0);
        for (int party = 0; party < 4; party++) {
            Edge.same("each PARTY can have a NOTICE", desk.notice(party, 0), 3 + party);
            Edge.same("once", desk.notice(party, 0), -2);
        }
        Edge.same("its end ENTERED", desk.enter(0, true), 7);
        Edge.same("when", desk.entry(0, 2), 7);
        Edge.same("ENTERED as before", desk.entry(0, 1), 1);
    }

    private static void dies() {
        Edge.of(Edge.TERMS, "a PARTY that DIES (persons die, firms are struck off: the same);");
        for (int party : new int[] {0, 4}) {
            Desk desk = new Desk(SIX + "from " + party + " to 1 by 1" + ANY + ";from 1 to " + party + " by 1" + ANY + ";");
            Edge.same("the giver is there", desk.over(0), 0);
            Edge.same("the HOLDER is there", desk.over(1), 0);
            Edge.same("DIES", desk.die(party), 1);
            Edge.same("bits", desk.now(6), 1 << party);
            Edge.same("who gave it has DIED", desk.over(0), 3);
            Edge.same("its HOLDER has DIED", desk.over(1), 4);
            Edge.same("an ACT in its name", desk.does(2, party, 3, 0, 1), -2);
            Edge.same("an ACT with it", desk.does(2, 3, party, 0, 1), -2);
            Edge.same("once", desk.die(party), -2);
        }
    }

    private static void acts() {
        Edge.of(Edge.TERMS,
            "an ACT of some persons in the name of a PARTY, with a third PARTY, of a KIND and an amount;");
        Desk desk = new Desk(SIX);
        int[][] all = {{2, 0, 2, 0, 0}, {15 - 3, 0, 1, 5, 999}, {15, 4, 5, 1, 1}, {8, 5, 0, 4, 998}};
        for (int i = 0; i < all.length; i++) {
            Edge.same("ACT", desk.does(all[i][0], all[i][1], all[i][2], all[i][3], all[i][4]), i);
            for (int what = 0; what < 5; what++) {
                Edge.same("act(" + i + ", " + what + ")", desk.act(i, what), all[i][what]);
            }
        }
        Edge.same("of nobody", desk.does(0, 0, 2, 0, 0), -1);
        Edge.same("with nobody", desk.does(2, 0, -1, 0, 0), -1);
        Edge.same("with one that is not there", desk.does(2, 0, 6, 0, 0), -1);
        Edge.same("with the last one", desk.does(2, 0, 5, 0, 0), 4);
    }

    private static void approvedAndGivenUp() {
        Edge.of(Edge.TERMS, "an ACT that is APPROVED by the one in whose name it was; one that the third gives up.");
        Desk desk = new Desk(FOUR);
        desk.does(2, 0, 3, 0, 1);
        desk.does(2, 0, 3, 0, 1);
        Edge.same("not yet", desk.act(0, 7) + desk.act(1, 8), -2);
        Edge.same("APPROVED", desk.approve(0), 3);
        Edge.same("when", desk.act(0, 7), 3);
        Edge.same("not given up", desk.act(0, 8), -1);
        Edge.same("given up", desk.giveUp(1), 4);
        Edge.same("when", desk.act(1, 8), 4);
        Edge.same("not APPROVED", desk.act(1, 7), -1);
    }

    // ---- LIVE

    private static void liveTillEnded() {
        Edge.of(Edge.TERMS, "A POWER is LIVE at a MOMENT, if it is given by then, not ENDED by then,");
        Desk desk = new Desk(FOUR + "from 0 to 1 by 1 kinds 0 most 9;from 0 to 1 by 1 kinds 0 most 9;");
        desk.narrow(0, 63, 999);
        desk.finish(0);
        desk.narrow(1, 63, 999);
        int[] live = {1, 1, 0, 0};
        for (int moment = 0; moment < live.length; moment++) {
            Edge.same("at " + moment, desk.live(0, moment), live[moment]);
            Edge.same("another at " + moment, desk.live(1, moment), 1);
        }
    }

    private static void liveTillItsDay() {
        Edge.of(Edge.TERMS, "the DAY then is no later than its last one,");
        for (int last : new int[] {0, 1, 5, 99}) {
            Desk desk = new Desk(FOUR + "from 0 to 1 by 1 kinds 0 most 9 till " + last + ";");
            if (last > 1) {
                desk.days(last - 1);
            }
            desk.narrow(0, 63, 999);
            Edge.same("ahead of its last DAY", desk.over(0), 0);
            if (last > 0) {
                desk.days(1);
            }
            desk.narrow(0, 63, 999);
            Edge.same("on its last DAY", desk.over(0), 0);
            desk.days(1);
            Edge.same("behind its last DAY", desk.over(0), 2);
            desk.narrow(0, 63, 999);
            for (int moment = 0; moment <= 3; moment++) {
                Edge.same("till " + last + " at " + moment, desk.live(0, moment), moment < 3 ? 1 : 0);
            }
        }
        Desk desk = new Desk(FOUR + "from 0 to 1 by 1 kinds 0 most 9 till 998;from 0 to 1 by 1 kinds 0 most 9 till 999;"
            + "from 0 to 1 by 1 kinds 0 most 9;");
        for (int i = 0; i < 10; i++) {
            desk.days(99);
        }
        desk.days(8);
        Edge.same("till 998 on DAY 998", desk.over(0), 0);
        desk.days(1);
        Edge.same("till 998 on DAY 999", desk.over(0), 2);
        Edge.same("till 999 on DAY 999", desk.over(1), 0);
        Edge.same("without a last DAY on DAY 999", desk.over(2), 0);
    }

    private static void liveTillItsGiverDies() {
        Edge.of(Edge.TERMS, "who gave it has not DIED by then,");
        Desk desk = new Desk(FOUR + "from 0 to 1 3 by 1 kinds 0 most 9 sub;under 0 to 3 by 1 kinds 0 most 9;"
            + "from 3 to 0 1 by 1 kinds 0 most 9;");
        desk.die(1);
        desk.die(0);
        desk.die(2);
        int[] live = {1, 1, 0, 0};
        for (int moment = 0; moment < live.length; moment++) {
            Edge.same("at " + moment, desk.live(0, moment), live[moment]);
            Edge.same("the one under it at " + moment, desk.live(1, moment), live[moment]);
        }
        Edge.same("why", desk.over(0), 3);
        Edge.same("another's, whose HOLDERS are the same", desk.over(2), 4);
    }

    private static void liveWithEnoughHolders() {
        Edge.of(Edge.TERMS, "of its HOLDERS as many as must act together have not DIED by then,");
        for (int together = 1; together <= 3; together++) {
            Desk desk = new Desk(SIX + "from 0 to 1 2 4 by " + together + " kinds 0 most 9;");
            desk.die(3);
            desk.die(2);
            desk.die(4);
            desk.die(1);
            int[] left = {3, 3, 2, 1, 0};
            for (int moment = 0; moment < left.length; moment++) {
                Edge.same(left[moment] + " of " + together, desk.live(0, moment), left[moment] >= together ? 1 : 0);
            }
        }
    }

    private static void liveUnderALiveOne() {
        Edge.of(Edge.TERMS, "and the POWER under which it was handed on is LIVE then, too.");
        String text = SIX + "from 0 to 1 by 1 kinds 0 most 9 till 3 sub;under 0 to 2 by 1 kinds 0 most 9 sub;"
            + "under 1 to 3 by 1 kinds 0 most 9;under 0 to 3 by 1 kinds 0 most 9;";
        int[][] due = {{0, 0, 0, 0}, {1, 0, 0, 1}, {1, 1, 0, 1}, {1, 1, 1, 0}};
        for (int ended = 0; ended < 4; ended++) {
            Desk desk = new Desk(text);
            desk.finish(ended);
            for (int power = 0; power < 4; power++) {
                Edge.same(power + " ahead of the end of " + ended, desk.live(power, 0), 1);
                Edge.same(power + " at the end of " + ended, desk.live(power, 1), due[ended][power]);
            }
        }
        Desk byDay = new Desk(text);
        byDay.days(3);
        Edge.same("on the upper one's last DAY", byDay.over(2), 0);
        byDay.days(1);
        Edge.same("behind it", byDay.over(2), 5);
        Desk byDeath = new Desk(text);
        byDeath.die(2);
        Edge.same("HOLDERS in between", byDeath.over(2), 5);
        Edge.same("not under that", byDeath.over(3), 0);
        byDeath.die(1);
        Edge.same("HOLDERS of the uppermost", byDeath.over(3), 5);
    }

    // ---- SCOPE

    private static void scopeAsToldAndNarrowed() {
        Edge.of(Edge.TERMS, "Its SCOPE then: KINDS and amount as told and as NARROWED by then,");
        Desk desk = new Desk(FOUR + "from 0 to 1 by 1 kinds 0 1 5 most 50;from 0 to 1 by 1 kinds 2 most 999;");
        desk.narrow(1, 63, 7);
        desk.narrow(0, 35, 49);
        desk.narrow(0, 62, 60);
        int[] kinds = {35, 35, 35, 34};
        int[] most = {50, 50, 49, 49};
        int[] otherMost = {999, 7, 7, 7};
        for (int moment = 0; moment < 4; moment++) {
            Edge.same("KINDS at " + moment, desk.scope(0, moment, 1), kinds[moment]);
            Edge.same("amount at " + moment, desk.scope(0, moment, 2), most[moment]);
            Edge.same("KINDS of another at " + moment, desk.scope(1, moment, 1), 4);
            Edge.same("amount of another at " + moment, desk.scope(1, moment, 2), otherMost[moment]);
        }
        desk.finish(0);
        Edge.same("KINDS of one that is ENDED", desk.scope(0, 4, 1), 34);
        Edge.same("amount of one that is ENDED", desk.scope(0, 4, 2), 49);
    }

    private static void scopesMet() {
        Edge.of(Edge.TERMS,
            "and those of the POWER under which it is, likewise, met: KINDS of both, the lesser amount.");
        int[] most = {49, 50, 51};
        for (int upper : most) {
            Desk desk = new Desk(FOUR + "from 0 to 1 by 1 kinds 0 1 most " + upper + " sub;"
                + "under 0 to 3 by 1 kinds 1 2 most 50;under 0 to 3 by 1 kinds 2 3 most 50;");
            Edge.same("the lesser amount", desk.scope(1, 0, 2), Math.min(upper, 50));
            Edge.same("of the upper one", desk.scope(0, 0, 2), upper);
            Edge.same("KINDS of both", desk.scope(1, 0, 1), 2);
            Edge.same("no KINDS of both", desk.scope(2, 0, 1), 0);
            desk.narrow(0, 61, 20);
            Edge.same("the upper one NARROWED", desk.scope(1, 1, 1), 0);
            Edge.same("its amount", desk.scope(1, 1, 2), 20);
            Edge.same("ahead of that", desk.scope(1, 0, 1), 2);
            desk.narrow(1, 63, 19);
            Edge.same("the upper one is not met with those under it", desk.scope(0, 2, 2), 20);
            Edge.same("the lesser", desk.scope(1, 2, 2), 19);
            Edge.same("the other under it", desk.scope(2, 2, 2), 20);
        }
        Desk deep = new Desk(FOUR + "from 0 to 1 by 1 kinds 0 1 2 most 30 sub;under 0 to 3 by 1 kinds 1 2 3 most 999 sub;"
            + "under 1 to 1 by 1 kinds 0 1 2 3 most 40;");
        Edge.same("KINDS of all three", deep.scope(2, 0, 1), 6);
        Edge.same("the least amount of three", deep.scope(2, 0, 2), 30);
    }

    // ---- CAN

    private static void canByTheirOwnPower() {
        Edge.of(Edge.TERMS,
            "Some persons CAN do something (of a KIND, an amount) for a PARTY at a MOMENT by a POWER that that one gave,");
        Desk desk = new Desk(SIX + "from 3 to 1 by 1" + ANY + ";from 0 to 2 by 1" + ANY + " sub;under 1 to 1 by 1" + ANY
            + ";from 4 to 1 by 1" + ANY + ";");
        Edge.same("for 0", desk.can(2, 0, 0, 1), 2);
        Edge.same("for 3", desk.can(2, 3, 0, 1), 0);
        Edge.same("for the firm", desk.can(2, 4, 0, 1), 3);
        Edge.same("for 2, who gave none", desk.can(2, 2, 0, 1), -2);
        Edge.same("for the firm that gave none", desk.can(2, 5, 0, 1), -2);
        Edge.same("by another's POWER", desk.can(4, 3, 0, 1), -2);
        desk.does(2, 0, 3, 0, 1);
        desk.finish(1);
        Edge.same("no more", desk.can(2, 0, 0, 1), -2);
        Edge.same("at that MOMENT they could", desk.binds(0), 1);
    }

    private static void canIfLiveAndPermitted() {
        Edge.of(Edge.TERMS, "if it is LIVE, its SCOPE permits it,");
        Desk desk = new Desk(FOUR + "from 0 to 1 by 1 kinds 1 2 most 50 till 1;");
        int[] amounts = {0, 49, 50, 51, 999};
        int[] due = {0, 0, 0, -2, -2};
        for (int i = 0; i < amounts.length; i++) {
            Edge.same("amount " + amounts[i], desk.can(2, 0, 1, amounts[i]), due[i]);
        }
        int[] kinds = {-2, 0, 0, -2, -2, -2};
        for (int kind = 0; kind < 6; kind++) {
            Edge.same("KIND " + kind, desk.can(2, 0, kind, 50), kinds[kind]);
        }
        desk.days(1);
        Edge.same("LIVE", desk.can(2, 0, 1, 50), 0);
        desk.days(1);
        Edge.same("not LIVE", desk.can(2, 0, 1, 50), -2);
        Desk zero = new Desk(FOUR + "from 0 to 1 by 1 kinds 0 most 0;");
        Edge.same("amount 0 of 0", zero.can(2, 0, 0, 0), 0);
        Edge.same("amount 1 of 0", zero.can(2, 0, 0, 1), -2);
    }

    private static void canIfEnoughAct() {
        Edge.of(Edge.TERMS, "and enough of its HOLDERS ACT:");
        for (int together = 1; together <= 4; together++) {
            Desk desk = new Desk("person;person;person;person;person;person;from 0 to 1 2 3 4 by " + together
                + " kinds 0 most 9;");
            for (int persons = 2; persons < 64; persons += 2) {
                int holders = Integer.bitCount(persons & 30);
                Edge.same(persons + " by " + together, desk.can(persons, 0, 0, 9), holders >= together ? 0 : -2);
            }
        }
    }

    private static void personsAct() {
        Edge.of(Edge.TERMS, "one ACTS that has not DIED by then and is among those persons;");
        Desk desk = new Desk(FOUR + "from 0 to 1 3 by 1 kinds 0 most 9;from 2 to 1 3 by 2 kinds 0 most 9;");
        Edge.same("among those", desk.can(2, 0, 0, 9), 0);
        Edge.same("both", desk.can(10, 2, 0, 9), 1);
        Edge.same("not among those", desk.can(8, 2, 0, 9), -2);
        desk.does(2, 0, 3, 0, 9);
        desk.die(1);
        Edge.same("has DIED", desk.can(2, 0, 0, 9), -2);
        Edge.same("the other one", desk.can(8, 0, 0, 9), 0);
        Edge.same("with the dead", desk.can(10, 0, 0, 9), 0);
        Edge.same("both no more", desk.can(10, 2, 0, 9), -2);
        Edge.same("had not DIED by then", desk.binds(0), 1);
    }

    private static void firmsAct() {
        Edge.of(Edge.TERMS,
            "or is a firm that has not DIED, for which those persons CAN do the same at that MOMENT by some POWER");
        String text = SIX + "from 0 to 4 by 1 kinds 0 1 most 50;from 4 to 2 by 1 kinds 0 most 60;"
            + "from 4 to 1 2 by 2 kinds 0 1 most 40;";
        Desk desk = new Desk(text);
        Edge.same("by the firm's first", desk.can(4, 0, 0, 50), 0);
        Edge.same("its amount, not the firm's", desk.can(4, 0, 0, 51), -2);
        Edge.same("for the firm itself", desk.can(4, 4, 0, 60), 1);
        Edge.same("by some other", desk.can(6, 0, 1, 40), 0);
        Edge.same("not the same amount", desk.can(6, 0, 1, 41), -2);
        Edge.same("not the same KIND", desk.can(4, 0, 1, 1), -2);
        Edge.same("for which they can't", desk.can(2, 0, 0, 1), -2);
        desk.does(4, 0, 3, 0, 50);
        desk.finish(1);
        Edge.same("not at this MOMENT", desk.can(4, 0, 0, 50), -2);
        Edge.same("at that MOMENT", desk.binds(0), 1);
        Desk dead = new Desk(text);
        dead.die(5);
        Edge.same("another firm has DIED", dead.can(4, 0, 0, 50), 0);
        dead.die(4);
        Edge.same("the firm has DIED", dead.can(4, 0, 0, 50), -2);
        Desk ends = new Desk("firm;" + Probe.times("person;", 6) + "firm;from 1 to 0 7 by 2" + ANY + ";from 0 to 2 by 1" + ANY
            + ";from 7 to 3 by 1" + ANY + ";");
        Edge.same("the first and the last PARTY", ends.can(12, 1, 0, 1), 0);
        Edge.same("the first alone", ends.can(4, 1, 0, 1), -2);
        Edge.same("the last alone", ends.can(8, 1, 0, 1), -2);
        Desk chain = new Desk("firm;person;person;firm;from 1 to 3 by 1" + ANY + ";from 3 to 0 by 1" + ANY + ";from 0 to 2 by 1"
            + ANY + ";");
        Edge.same("the first within another", chain.can(4, 1, 0, 1), 0);
    }

    private static void threeFirms() {
        Edge.of(Edge.TERMS, "(3 firms one within another at most).");
        // person 1 acts for firm 7, that for 6, and so on up to firm 3
        StringBuilder text = new StringBuilder("person;person;person;firm;firm;firm;firm;firm;from 7 to 1 by 1" + ANY + ";");
        for (int firm = 6; firm >= 3; firm--) {
            text.append("from ").append(firm).append(" to ").append(firm + 1).append(" by 1").append(ANY).append(';');
        }
        for (int firm = 7; firm >= 3; firm--) {
            Desk desk = new Desk(text + "from 0 to " + firm + " by 1" + ANY + ";");
            int within = 8 - firm;
            Edge.same(within + " firms", desk.can(2, 0, 0, 999), within <= 3 ? 5 : -2);
            Edge.same("up to", desk.upTo(2, 0, 5), within <= 3 ? 999 : -2);
            Edge.same("alone", desk.alone(0, 0, 0), within <= 3 ? 2 : 0);
            Edge.same("fewest", desk.fewest(0, 0, 0), within <= 3 ? 2 : -2);
            desk.does(2, 0, 2, 0, 1);
            Edge.same("binds", desk.binds(0), within <= 3 ? 1 : 0);
            int through = (1 << within) - 1 | 32;
            Edge.same("used", desk.used(0), within <= 3 ? through : 0);
            Edge.same("hang", desk.hang(0), within <= 3 ? 1 : 0);
        }
    }

    private static void theLeastNumberIsUsed() {
        Edge.of(Edge.TERMS, "Of several POWERS the one of least number is USED,");
        Desk desk = new Desk(FOUR + "from 0 to 3 by 1 kinds 0 most 9;from 0 to 1 by 1 kinds 0 most 5;"
            + "from 0 to 1 by 1 kinds 0 most 9;from 0 to 1 by 1 kinds 0 most 9;");
        int[] amounts = {5, 6, 9, 10};
        int[] due = {1, 2, 2, -2};
        for (int i = 0; i < amounts.length; i++) {
            Edge.same("amount " + amounts[i], desk.can(2, 0, 0, amounts[i]), due[i]);
            desk.does(2, 0, 2, 0, amounts[i]);
            Edge.same("used", desk.used(i), due[i] < 0 ? 0 : 1 << due[i]);
        }
        desk.finish(2);
        Edge.same("the next one", desk.can(2, 0, 0, 9), 3);
    }

    private static void usedForFirms() {
        Edge.of(Edge.TERMS, "and, for each firm that ACTS so (all of these), those USED for it.");
        // the HOLDERS 4 and 5 ACT by person 1 or 2, one of them is enough
        Desk desk = new Desk(SIX + "from 4 to 1 by 1 kinds 0 most 9;from 4 to 1 by 1 kinds 0 most 9;"
            + "from 5 to 2 by 1 kinds 0 most 9;from 0 to 1 4 5 by 1 kinds 0 most 9;from 5 to 4 3 by 2 kinds 0 most 9;");
        int[] persons = {2, 4, 6, 8, 10};
        int[] due = {8 + 1, 8 + 4, 8 + 4 + 1, 0, 8 + 1 + 16};
        for (int i = 0; i < persons.length; i++) {
            desk.does(persons[i], 0, 4, 0, 9);
            Edge.same("used by " + persons[i], desk.used(i), due[i]);
        }
    }

    // ---- BINDS

    private static void judgedAsOfItsMoment() {
        Edge.of(Edge.TERMS, "An ACT BINDS, judged as of its own MOMENT, as known at a later (or that) MOMENT M:");
        Desk desk = new Desk(FOUR + "from 0 to 1 by 1 kinds 0 most 50;from 0 to 1 by 1 kinds 1 most 50;");
        desk.narrow(1, 63, 999);
        desk.does(2, 0, 3, 0, 50);
        desk.narrow(0, 63, 49);
        desk.does(2, 0, 3, 0, 50);
        desk.finish(0);
        desk.die(1);
        int[][] due = {{-1, -1, 1, 1, 1, 1, 1, -1}, {-1, -1, -1, -1, 0, 0, 0, -1}};
        for (int act = 0; act < 2; act++) {
            for (int moment = 0; moment <= 7; moment++) {
                Edge.same("ACT " + act + " at " + moment, desk.binds(act, moment), due[act][moment]);
            }
        }
    }

    private static void byPower() {
        Edge.of(Edge.TERMS, "1 by POWER, if those who acted CAN (then);");
        Desk desk = new Desk(FOUR + "from 0 to 1 3 by 2 kinds 0 most 50;");
        int[][] all = {{10, 0, 50}, {10, 0, 51}, {10, 1, 50}, {2, 0, 50}, {8, 0, 50}};
        int[] due = {1, 0, 0, 0, 0};
        for (int i = 0; i < all.length; i++) {
            desk.does(all[i][0], 0, 2, all[i][1], all[i][2]);
            Edge.same("ACT " + i, desk.binds(i), due[i]);
        }
        desk.approve(0);
        Edge.same("by POWER still", desk.binds(0), 1);
        Desk seen = new Desk(FOUR + "from 0 to 1 by 1 kinds 0 most 50;from 0 to 1 by 1 kinds 0 most 40;");
        seen.enter(0, false);
        seen.finish(0);
        seen.does(2, 0, 3, 0, 40);
        seen.does(2, 0, 3, 0, 41);
        Edge.same("by POWER is ahead of APPEARANCE", seen.binds(0), 1);
        Edge.same("by the POWER that was there", seen.used(0), 2);
        Edge.same("above it, by APPEARANCE", seen.binds(1), 2);
    }

    private static void byAppearance() {
        Edge.of(Edge.TERMS, "else 2 by APPEARANCE, if they CAN, were each POWER that was ENTERED by the ACT's MOMENT, "
            + "and was ENDED by then, not ENDED,");
        String text = SIX + "from 0 to 1 by 1 kinds 0 most 50 till 5 sub;under 0 to 2 by 1 kinds 0 most 50;";
        Desk desk = new Desk(text);
        desk.finish(0);
        desk.does(2, 0, 3, 0, 50);
        Edge.same("never ENTERED", desk.binds(0), 0);
        desk = new Desk(text);
        desk.enter(0, false);
        desk.does(2, 0, 3, 0, 50);
        desk.finish(0);
        desk.does(2, 0, 3, 0, 50);
        desk.does(2, 0, 3, 0, 51);
        desk.does(2, 0, 3, 1, 50);
        desk.does(4, 0, 3, 0, 50);
        desk.does(8, 0, 1, 0, 50);
        int[] due = {1, 2, 0, 0, 2, 0};
        for (int act = 0; act < due.length; act++) {
            Edge.same("ACT " + act, desk.binds(act), due[act]);
        }
        Edge.same("by the one under it", desk.used(4), 2);
        desk.days(5);
        desk.does(2, 0, 3, 0, 50);
        Edge.same("on its last DAY", desk.binds(6), 2);
        desk.days(1);
        desk.does(2, 0, 3, 0, 50);
        Edge.same("behind its last DAY", desk.binds(7), 0);
        eachOfThem(text);
    }

    private static void eachOfThem(String text) {
        Desk both = new Desk(text);
        both.enter(0, false);
        both.enter(1, false);
        both.finish(0);
        both.finish(1);
        both.does(4, 0, 3, 0, 50);
        Edge.same("both were ENTERED", both.binds(0), 2);
        Desk one = new Desk(text);
        one.enter(0, false);
        one.finish(0);
        one.finish(1);
        one.does(4, 0, 3, 0, 50);
        Edge.same("one of both was not", one.binds(0), 0);
        Desk dead = new Desk(text);
        dead.enter(0, false);
        dead.finish(0);
        dead.die(2);
        dead.does(2, 0, 3, 0, 50);
        Edge.same("another's death", dead.binds(0), 2);
        dead.die(0);
        Edge.same("the giver's", dead.does(2, 0, 3, 0, 50), -2);
        Desk firm = new Desk(SIX + "from 0 to 4 by 1 kinds 0 most 50;from 4 to 1 by 1 kinds 0 most 50;");
        firm.enter(1, false);
        firm.finish(1);
        firm.does(2, 0, 3, 0, 50);
        Edge.same("within a firm", firm.binds(0), 2);
        Edge.same("used", firm.used(0), 3);
    }

    private static void unlessItsEndWasEntered() {
        Edge.of(Edge.TERMS, "unless its end was ENTERED by then,");
        Desk desk = new Desk(FOUR + "from 0 to 1 by 1 kinds 0 most 50;");
        desk.enter(0, false);
        desk.finish(0);
        desk.does(2, 0, 3, 0, 50);
        desk.enter(0, true);
        desk.does(2, 0, 3, 0, 50);
        Edge.same("ahead of that", desk.binds(0), 2);
        Edge.same("ahead of that, as known later", desk.binds(0, 5), 2);
        Edge.same("behind that", desk.binds(1), 0);
    }

    private static void orTheThirdHadANotice() {
        Edge.of(Edge.TERMS, "or the third had a NOTICE of it by then;");
        Desk desk = new Desk(FOUR + "from 0 to 1 by 1 kinds 0 most 50;from 0 to 1 by 1 kinds 5 most 50;");
        desk.enter(0, false);
        desk.finish(0);
        desk.finish(1);
        desk.notice(1, 0);
        desk.notice(2, 0);
        desk.notice(3, 1);
        desk.does(2, 0, 3, 0, 50);
        Edge.same("others had, and of another POWER", desk.binds(0), 2);
        desk.notice(3, 0);
        desk.does(2, 0, 3, 0, 50);
        Edge.same("ahead of that, as known later", desk.binds(0), 2);
        Edge.same("behind that", desk.binds(1), 0);
        desk.does(2, 0, 2, 0, 50);
        Edge.same("with another who had", desk.binds(2), 0);
    }

    private static void byApproval() {
        Edge.of(Edge.TERMS, "else 3 by APPROVAL, if it was APPROVED by M;");
        Desk desk = new Desk(FOUR + "from 0 to 1 by 1 kinds 0 most 50;");
        desk.does(2, 0, 3, 1, 50);
        desk.does(2, 0, 3, 1, 50);
        desk.narrow(0, 63, 999);
        desk.approve(0);
        desk.narrow(0, 63, 999);
        int[] due = {-1, 0, 0, 0, 3, 3, -1};
        for (int moment = 0; moment < due.length; moment++) {
            Edge.same("as known at " + moment, desk.binds(0, moment), due[moment]);
        }
        Edge.same("the other one", desk.binds(1), 0);
        desk.die(0);
        Edge.same("behind a death", desk.binds(0), 3);
        Desk seen = new Desk(FOUR + "from 0 to 1 by 1 kinds 0 most 50;");
        seen.enter(0, false);
        seen.finish(0);
        seen.does(2, 0, 3, 0, 50);
        seen.approve(0);
        Edge.same("by APPEARANCE is ahead", seen.binds(0), 2);
    }

    private static void bindsNobodyElse() {
        Edge.of(Edge.TERMS, "else 0 (it binds those who acted alone).");
        Desk desk = new Desk(FOUR);
        desk.does(2, 0, 3, 0, 0);
        Edge.same("at its MOMENT", desk.binds(0, 1), 0);
        Edge.same("nothing was USED", desk.used(0), 0);
        desk.giveUp(0);
        Edge.same("given up", desk.binds(0, 2), 0);
        Edge.same("nothing is bound", desk.bound(0, 0), 0);
        Edge.same("nor who acted", desk.bound(1, 0), 0);
    }

    // ---- now, and what stands for all

    private static void nowIsOnTheDay() {
        Edge.of(Edge.TERMS, "Now: at the latest MOMENT, but on the DAY as it is.");
        Desk desk = new Desk(FOUR + "from 0 to 1 by 1 kinds 0 most 50 till 2;");
        desk.narrow(0, 63, 40);
        int[] live = {1, 1, 1, 0};
        for (int day = 0; day < live.length; day++) {
            String on = " on DAY " + day;
            Edge.same("over" + on, desk.over(0), live[day] == 1 ? 0 : 2);
            Edge.same("can" + on, desk.can(2, 0, 0, 40), live[day] == 1 ? 0 : -2);
            Edge.same("can more" + on, desk.can(2, 0, 0, 41), -2);
            Edge.same("upTo" + on, desk.upTo(2, 0, 0), live[day] == 1 ? 40 : -2);
            Edge.same("alone" + on, desk.alone(0, 0, 40), live[day] == 1 ? 2 : 0);
            Edge.same("fewest" + on, desk.fewest(0, 0, 40), live[day] == 1 ? 2 : -2);
            Edge.same("at its MOMENT" + on, desk.live(0, 1), 1);
            desk.days(1);
        }
        desk.narrow(0, 63, 999);
        Edge.same("at a MOMENT of that DAY", desk.live(0, 2), 0);
    }

    private static void noFirmsAndNotThatParty() {
        Edge.of(Edge.TERMS, "Persons who act for a PARTY are no firms, and not that PARTY.");
        Desk desk = new Desk(FOUR + "from 0 to 1 2 by 1" + ANY + ";from 2 to 1 by 1" + ANY + ";");
        int[] wrong = {1, 3, 4, 6, 5, 7, 15};
        for (int persons : wrong) {
            Edge.same("can " + persons, desk.can(persons, 0, 0, 1), -1);
            Edge.same("upTo " + persons, desk.upTo(persons, 0, 0), -1);
            Edge.same("does " + persons, desk.does(persons, 0, 3, 0, 1), -1);
        }
        Edge.same("a firm for itself", desk.can(4, 2, 0, 1), -1);
        Edge.same("persons for the firm", desk.can(3, 2, 0, 1), 1);
        for (int persons : new int[] {2, 8, 10}) {
            Edge.same("can " + persons, desk.can(persons, 0, 0, 1), persons == 8 ? -2 : 0);
        }
        Edge.same("nor alone", desk.alone(0, 0, 1), 2);
        Edge.same("nor of the fewest", desk.fewest(2, 0, 1), 2);
        Edge.same("nothing was put down", desk.moment(), 0);
        Desk round = new Desk(FOUR + "from 0 to 2 by 1" + ANY + ";from 2 to 0 by 1" + ANY + ";");
        Edge.same("nobody else", round.alone(0, 0, 1), 0);
        Edge.same("nor together", round.fewest(0, 0, 1), -2);
        Edge.same("for the firm", round.alone(2, 0, 1), 1);
    }

    private static void whatCanBeApproved() {
        Edge.of(Edge.TERMS, "APPROVED can be an ACT that is not, whose third has not given it up, "
            + "in the name of a PARTY that has not DIED.");
        Desk desk = new Desk(FOUR + "from 0 to 1 by 1 kinds 0 most 50;");
        for (int act = 0; act < 4; act++) {
            desk.does(2, 0, 3, act == 3 ? 0 : 1, 50);
        }
        desk.does(2, 3, 0, 1, 50);
        desk.giveUp(1);
        desk.die(1);
        Edge.same("one that is not", desk.approve(0), 8);
        Edge.same("one that is", desk.approve(0), -2);
        Edge.same("given up", desk.approve(1), -3);
        Edge.same("one that BINDS by POWER", desk.approve(3), 9);
        Edge.same("who acted has DIED", desk.approve(2), 10);
        desk.die(3);
        Edge.same("that PARTY has DIED", desk.approve(4), -4);
        Edge.same("nothing was put down", desk.moment(), 11);
        Edge.same("it is not", desk.act(4, 7), -1);
    }

    private static void aNewText() {
        Edge.of(Edge.TERMS, "A new TEXT: DAY 0, MOMENT 0, nothing is put down.");
        String text = FOUR + "from 0 to 1 by 1 kinds 0 1 most 50;from 0 to 1 by 1 kinds 0 most 60;";
        Desk fresh = new Desk(text);
        String due = fresh.state();
        Desk desk = new Desk(FOUR + "from 1 to 0 3 by 2 kinds 4 5 most 9 till 3 sub;under 0 to 3 by 1 kinds 2 most 1 sub;");
        // the third TEXT may stand where the first one stood
        for (int i = 0; i < 3; i++) {
            desk.days(99);
            desk.narrow(0, 1, 1);
            desk.enter(0, false);
            desk.does(2, 0, 3, 0, 1);
            desk.does(2, 0, 3, 1, 1);
            desk.approve(1);
            desk.finish(0);
            desk.notice(3, 0);
            desk.enter(0, true);
            desk.die(3);
            desk.die(2);
            desk.tell(text);
            Edge.sameText("what stands", desk.state(), due);
            Edge.same("as told: KINDS", desk.power(0, 3), 3);
            Edge.same("as told: no last DAY", desk.power(0, 5), -1);
            Edge.same("as told: no 'sub'", desk.power(0, 6) + desk.power(1, 6), 0);
            Edge.same("as told: under none", desk.power(1, 7), -1);
        }
        Edge.same("DAY", desk.now(3), 0);
        Edge.same("MOMENT", desk.moment(), 0);
        Edge.same("no such MOMENT any more", desk.live(0, 1), -1);
        Edge.same("no such ACT any more", desk.act(0, 0), Probe.THROWN);
        Edge.same("as NARROWED no more", desk.can(2, 0, 1, 50), 0);
        Edge.same("ENTERED no more", desk.enter(0, false), 1);
        Edge.same("ENDED no more", desk.finish(0), 2);
        Edge.same("no NOTICE any more", desk.notice(3, 0), 3);
        Edge.same("its end is not ENTERED", desk.enter(0, true), 4);
        Edge.same("nobody has DIED", desk.die(3), 5);
        Edge.same("the first ACT", desk.does(2, 0, 2, 0, 60), 0);
        Edge.same("its DAY", desk.act(0, 6), 0);
        Edge.same("not APPROVED", desk.act(0, 7), -1);
        Edge.same("MOMENTS", desk.moment(), 6);
        desk.tell(FOUR + "from 0 to 1 by 1 kinds 0 most 9;");
        Edge.same("300 MOMENTS again", roomLeft(desk), 300);
    }

    /** How many MOMENTS can still be put down. */
    private static int roomLeft(Desk desk) {
        int n = 0;
        while (n < 301 && desk.narrow(0, 63, 999) >= 0) {
            n++;
        }
        return n;
    }

    private static void throwingChangesNothing() {
        Edge.of(Edge.TERMS, "A call that throws changes nothing.");
        Desk desk = new Desk(FOUR + "from 0 to 1 by 1 kinds 0 1 most 50;");
        desk.days(2);
        desk.does(2, 0, 3, 0, 1);
        desk.feed("person;             ");
        String ahead = desk.state();
        for (int one : Edge.outside(1)) {
            Edge.same("power(" + one + ", 0)", desk.power(one, 0), Probe.THROWN);
            Edge.same("act(" + one + ", 0)", desk.act(one, 0), Probe.THROWN);
        }
        for (int what : Edge.outside(9)) {
            Edge.same("power(0, " + what + ")", desk.power(0, what), Probe.THROWN);
            Edge.same("act(0, " + what + ")", desk.act(0, what), Probe.THROWN);
        }
        Edge.sameText("what stands", desk.state(), ahead);
        Edge.same("the tape", desk.text(), 1);
        Edge.same("power(0, 0) behind that", desk.power(0, 0), Probe.THROWN);
    }
}
