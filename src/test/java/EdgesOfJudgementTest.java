/** The edges of promises 12 to 19, sentence by sentence: who CAN, what BINDS, what hangs on a POWER. */
public final class EdgesOfJudgementTest {
    private static final String BINDS = "Promise 12: binds";
    private static final String USED = "Promise 13: used";
    private static final String CAN = "Promise 14: can";
    private static final String UP_TO = "Promise 15: upTo";
    private static final String ALONE = "Promise 16: alone";
    private static final String FEWEST = "Promise 17: fewest";
    private static final String HANG = "Promise 18: hang";
    private static final String BOUND = "Promise 19: bound";
    private static final String ANY = " kinds 0 1 2 3 4 5 most 999";
    private static final String FOUR = "person;person;firm;person;";
    private static final String EIGHT = Probe.times("person;", 8);
    /** Of four PARTIES with the firm 2: no sets of persons who could act for PARTY 0. */
    private static final int[] NO_PERSONS = {0, 1, 3, 4, 6, 16, 18, 32, 256 + 2, -1, -2, Integer.MIN_VALUE,
        Integer.MIN_VALUE + 2, Integer.MAX_VALUE, 1 << 30 | 2};

    public static void main(String[] args) {
        bindsOrNot();
        bindsOfNone();
        usedBits();
        usedOfNone();
        canByTheLeast();
        cannot();
        canOfNone();
        upToTheGreatest();
        upToNone();
        upToOfNone();
        aloneBits();
        aloneOfNone();
        fewestOfSeveral();
        fewestNone();
        fewestOfNone();
        hangBits();
        hangUnder();
        hangOfNone();
        boundTogether();
        boundOfNone();
        Edge.finish("EdgesOfJudgementTest", BINDS, USED, CAN, UP_TO, ALONE, FEWEST, HANG, BOUND);
    }

    private static void bindsOrNot() {
        Edge.of(BINDS, "Whether an ACT BINDS (0 to 3), as known at a MOMENT.");
        Desk desk = new Desk(FOUR + "from 0 to 1 by 1 kinds 0 most 50;from 0 to 1 by 1 kinds 1 most 50;");
        desk.does(2, 0, 3, 0, 50);
        desk.enter(1, false);
        desk.finish(1);
        desk.does(2, 0, 3, 1, 50);
        desk.does(2, 0, 3, 2, 50);
        desk.does(2, 0, 3, 3, 50);
        desk.approve(2);
        int[] first = {1, 4, 5, 6};
        int[] atFirst = {1, 2, 0, 0};
        int[] atLast = {1, 2, 3, 0};
        for (int act = 0; act < 4; act++) {
            Edge.same("ACT " + act + " at its own MOMENT", desk.binds(act, first[act]), atFirst[act]);
            Edge.same("ACT " + act + " ahead of the approval", desk.binds(act, 6), atFirst[act]);
            Edge.same("ACT " + act + " at the approval", desk.binds(act, 7), atLast[act]);
        }
    }

    private static void bindsOfNone() {
        Edge.of(BINDS, "NONE: no such ACT, no such MOMENT, one ahead of its own.");
        Desk desk = new Desk(FOUR + "from 0 to 1 by 1 kinds 0 most 50;");
        Edge.same("none yet", desk.binds(0, 0), -1);
        desk.passTo(2);
        desk.does(2, 0, 3, 0, 50);
        desk.passTo(5);
        desk.does(2, 0, 3, 0, 50);
        for (int act : Edge.outside(2)) {
            Edge.same("binds(" + act + ", 6)", desk.binds(act, 6), -1);
        }
        for (int moment : Edge.outside(7)) {
            Edge.same("binds(0, " + moment + ")", desk.binds(0, moment), -1);
        }
        for (int moment = 0; moment <= 7; moment++) {
            Edge.same("ACT 0 at " + moment, desk.binds(0, moment), moment < 3 || moment > 6 ? -1 : 1);
            Edge.same("ACT 1 at " + moment, desk.binds(1, moment), moment == 6 ? 1 : -1);
        }
        desk.passTo(299);
        desk.does(2, 0, 3, 0, 50);
        Edge.same("the last MOMENT, at 299", desk.binds(2, 299), -1);
        Edge.same("the last MOMENT, at 300", desk.binds(2, 300), 1);
        Edge.same("the last MOMENT, at 301", desk.binds(2, 301), -1);
    }

    private static void usedBits() {
        Edge.of(USED, "POWERS that were USED (bits), if it BINDS by POWER or APPEARANCE; 0 else.");
        Desk desk = new Desk("person;person;person;" + Probe.times("from 2 to 0 by 1 kinds 5 most 9;", 18)
            + "from 0 to 1 by 1 kinds 1 most 9;from 0 to 1 by 1 kinds 0 most 9;");
        desk.does(2, 0, 2, 0, 9);
        Edge.same("by POWER, the last one", desk.used(0), 1 << 19);
        desk.enter(18, false);
        desk.finish(18);
        desk.does(2, 0, 2, 1, 9);
        Edge.same("by APPEARANCE", desk.used(1), 1 << 18);
        desk.does(2, 0, 2, 0, 10);
        Edge.same("by none", desk.used(2), 0);
        desk.approve(2);
        Edge.same("by APPROVAL", desk.binds(2), 3);
        Edge.same("so none was used", desk.used(2), 0);
        desk.does(1, 2, 1, 5, 9);
        Edge.same("the first one", desk.used(3), 1);
        desk.finish(0);
        desk.die(0);
        Edge.same("as of its MOMENT", desk.used(3), 1);
    }

    private static void usedOfNone() {
        Edge.of(USED, "NONE: no such ACT.");
        Desk desk = new Desk(FOUR);
        Edge.same("none yet", desk.used(0), -1);
        desk.does(2, 0, 3, 0, 9);
        desk.does(2, 0, 3, 0, 9);
        Edge.same("the last", desk.used(1), 0);
        for (int act : Edge.outside(2)) {
            Edge.same("used(" + act + ")", desk.used(act), -1);
        }
    }

    private static void canByTheLeast() {
        Edge.of(CAN, "Whether some persons (bits) CAN do so for a PARTY now: the POWER of least number by which;");
        Desk desk = new Desk("person;person;" + Probe.times("from 0 to 1 by 1 kinds 0 most 5;", 19)
            + "from 0 to 1 by 1 kinds 0 most 6;");
        Edge.same("the first", desk.can(2, 0, 0, 5), 0);
        Edge.same("the last", desk.can(2, 0, 0, 6), 19);
        for (int power = 0; power < 19; power++) {
            desk.finish(power);
            Edge.same("the next", desk.can(2, 0, 0, 5), power + 1);
        }
        Desk eight = new Desk(EIGHT + "from 0 to 1 2 3 4 5 6 7 by 7" + ANY + ";from 7 to 0 by 1" + ANY + ";");
        Edge.same("all of them", eight.can(254, 0, 5, 999), 0);
        Edge.same("one fewer", eight.can(254 - 128, 0, 5, 999), -2);
        Edge.same("for the last one", eight.can(1, 7, 5, 999), 1);
    }

    private static void cannot() {
        Edge.of(CAN, "-2: they can't.");
        Desk desk = new Desk(FOUR + "from 0 to 1 by 1 kinds 1 most 50;");
        Edge.same("they can", desk.can(2, 0, 1, 50), 0);
        Edge.same("above it", desk.can(2, 0, 1, 51), -2);
        Edge.same("another KIND", desk.can(2, 0, 0, 50), -2);
        Edge.same("another person", desk.can(8, 0, 1, 50), -2);
        Edge.same("for another", desk.can(2, 3, 1, 50), -2);
        desk.die(1);
        Edge.same("the dead are persons still", desk.can(2, 0, 1, 50), -2);
        desk.die(0);
        Edge.same("so are those in whose name", desk.can(8, 0, 1, 50), -2);
    }

    private static void canOfNone() {
        Edge.of(CAN, "NONE: no such ones (one person at least; KIND, amount 0 to 999).");
        Desk desk = new Desk(FOUR + "from 0 to 1 by 1" + ANY + ";");
        for (int persons : NO_PERSONS) {
            Edge.same("can(" + persons + ", 0, 0, 0)", desk.can(persons, 0, 0, 0), -1);
        }
        for (int persons : new int[] {2, 8, 10}) {
            Edge.same("can(" + persons + ", 0, 0, 0)", desk.can(persons, 0, 0, 0), persons == 8 ? -2 : 0);
        }
        for (int party : Edge.outside(4)) {
            Edge.same("can(2, " + party + ", 0, 0)", desk.can(2, party, 0, 0), -1);
        }
        for (int kind : Edge.outside(6)) {
            Edge.same("can(2, 0, " + kind + ", 0)", desk.can(2, 0, kind, 0), -1);
        }
        for (int amount : Edge.outside(1000)) {
            Edge.same("can(2, 0, 0, " + amount + ")", desk.can(2, 0, 0, amount), -1);
        }
        Edge.same("the least", desk.can(2, 0, 0, 0), 0);
        Edge.same("the greatest", desk.can(2, 0, 5, 999), 0);
        Edge.same("the last PARTY", desk.can(2, 3, 0, 0), -2);
        Edge.same("the last person", desk.can(8, 0, 0, 0), -2);
        Desk eight = new Desk(EIGHT + "from 0 to 7 by 1" + ANY + ";");
        Edge.same("the eighth", eight.can(128, 0, 0, 0), 0);
        Edge.same("all but the first", eight.can(254, 0, 0, 0), 0);
        Edge.same("all", eight.can(255, 0, 0, 0), -1);
        Edge.same("a ninth", eight.can(256, 0, 0, 0), -1);
        Edge.same("a ninth with the eighth", eight.can(256 + 128, 0, 0, 0), -1);
    }

    private static void upToTheGreatest() {
        Edge.of(UP_TO, "The greatest amount that some persons CAN so;");
        for (int most = 0; most <= 999; most++) {
            if (most < 20 || most > 980 || most % 83 == 0 || most % 125 < 2 || most % 125 == 124) {
                Desk desk = new Desk("person;person;from 0 to 1 by 1 kinds 0 most " + most + ";");
                Edge.same("most " + most, desk.upTo(2, 0, 0), most);
                Edge.same("so much", desk.can(2, 0, 0, most), 0);
                if (most < 999) {
                    Edge.same("one more", desk.can(2, 0, 0, most + 1), -2);
                }
            }
        }
        Desk desk = new Desk(FOUR + "from 0 to 1 by 1 kinds 0 most 10;from 0 to 1 3 by 2 kinds 0 most 30;"
            + "from 0 to 1 by 1 kinds 0 most 20;from 0 to 2 by 1 kinds 0 most 999;from 2 to 3 by 1 kinds 0 most 25;");
        Edge.same("of several POWERS", desk.upTo(2, 0, 0), 20);
        Edge.same("within a firm", desk.upTo(8, 0, 0), 25);
        Edge.same("together", desk.upTo(10, 0, 0), 30);
        desk.narrow(1, 63, 24);
        Edge.same("NARROWED", desk.upTo(10, 0, 0), 25);
        desk.narrow(2, 63, 0);
        Edge.same("back to the first", desk.upTo(2, 0, 0), 10);
        desk.finish(0);
        Edge.same("0 is an amount", desk.upTo(2, 0, 0), 0);
    }

    private static void upToNone() {
        Edge.of(UP_TO, "-2: none.");
        Desk desk = new Desk(FOUR + "from 0 to 1 by 1 kinds 0 most 0;");
        Edge.same("0", desk.upTo(2, 0, 0), 0);
        Edge.same("another KIND", desk.upTo(2, 0, 1), -2);
        Edge.same("another person", desk.upTo(8, 0, 0), -2);
        Edge.same("for another", desk.upTo(2, 3, 0), -2);
        desk.finish(0);
        Edge.same("ENDED", desk.upTo(2, 0, 0), -2);
    }

    private static void upToOfNone() {
        Edge.of(UP_TO, "NONE: no such ones.");
        Desk desk = new Desk(FOUR + "from 0 to 1 by 1" + ANY + ";");
        for (int persons : NO_PERSONS) {
            Edge.same("upTo(" + persons + ", 0, 0)", desk.upTo(persons, 0, 0), -1);
        }
        for (int party : Edge.outside(4)) {
            Edge.same("upTo(2, " + party + ", 0)", desk.upTo(2, party, 0), -1);
        }
        for (int kind : Edge.outside(6)) {
            Edge.same("upTo(2, 0, " + kind + ")", desk.upTo(2, 0, kind), -1);
        }
        Edge.same("the first KIND", desk.upTo(2, 0, 0), 999);
        Edge.same("the last KIND", desk.upTo(2, 0, 5), 999);
        Edge.same("the last PARTY", desk.upTo(2, 3, 0), -2);
        Edge.same("with the last person", desk.upTo(10, 0, 0), 999);
    }

    private static void aloneBits() {
        Edge.of(ALONE, "Persons (bits) who CAN do so alone now.");
        Desk desk = new Desk(EIGHT + "from 3 to 0 1 2 4 5 6 7 by 1 kinds 0 most 50 till 1;from 3 to 1 2 by 2 kinds 0 most 60;");
        Edge.same("all but who gave it", desk.alone(3, 0, 50), 255 - 8);
        Edge.same("nobody alone", desk.alone(3, 0, 51), 0);
        Edge.same("nobody for another", desk.alone(0, 0, 0), 0);
        Edge.same("nobody of another KIND", desk.alone(3, 1, 0), 0);
        desk.die(0);
        desk.die(7);
        Edge.same("without the dead", desk.alone(3, 0, 50), 255 - 8 - 1 - 128);
        desk.days(1);
        Edge.same("on the last DAY", desk.alone(3, 0, 0), 255 - 8 - 1 - 128);
        desk.days(1);
        Edge.same("behind it", desk.alone(3, 0, 0), 0);
        Desk firm = new Desk(FOUR + "from 0 to 2 by 1" + ANY + ";from 2 to 1 3 by 1" + ANY + ";");
        Edge.same("by a firm, which is none of them", firm.alone(0, 5, 999), 10);
    }

    private static void aloneOfNone() {
        Edge.of(ALONE, "NONE: no such ones.");
        Desk desk = new Desk(FOUR + "from 3 to 1 by 1" + ANY + ";from 0 to 1 by 1" + ANY + ";");
        for (int party : Edge.outside(4)) {
            Edge.same("alone(" + party + ", 0, 0)", desk.alone(party, 0, 0), -1);
        }
        for (int kind : Edge.outside(6)) {
            Edge.same("alone(0, " + kind + ", 0)", desk.alone(0, kind, 0), -1);
        }
        for (int amount : Edge.outside(1000)) {
            Edge.same("alone(0, 0, " + amount + ")", desk.alone(0, 0, amount), -1);
        }
        Edge.same("the least", desk.alone(0, 0, 0), 2);
        Edge.same("the greatest", desk.alone(3, 5, 999), 2);
    }

    private static void fewestOfSeveral() {
        Edge.of(FEWEST, "The fewest persons who CAN do so together now, of several sets the least (bits);");
        Desk desk = new Desk(EIGHT + "from 0 to 1 2 3 4 5 6 7 by 7 kinds 0 most 90;from 0 to 1 2 3 by 3 kinds 0 most 80;"
            + "from 0 to 6 7 by 2 kinds 0 most 70;from 0 to 5 6 by 2 kinds 0 most 60;from 0 to 7 by 1 kinds 0 most 50;"
            + "from 0 to 6 by 1 kinds 0 most 40;");
        int[] amounts = {90, 81, 80, 71, 70, 61, 60, 51, 50, 41, 40, 0};
        int[] due = {254, 254, 14, 14, 192, 192, 96, 96, 128, 128, 64, 64};
        for (int i = 0; i < amounts.length; i++) {
            Edge.same("amount " + amounts[i], desk.fewest(0, 0, amounts[i]), due[i]);
        }
        Edge.same("above all", desk.fewest(0, 0, 91), -2);
        desk.die(5);
        Edge.same("without the dead", desk.fewest(0, 0, 60), 192);
        Edge.same("all are too few", desk.fewest(0, 0, 90), -2);
        Desk firm = new Desk("person;person;person;person;firm;firm;from 0 to 4 5 by 2 kinds 0 most 9;"
            + "from 4 to 1 2 by 1 kinds 0 most 9;from 5 to 2 3 by 1 kinds 0 most 9;");
        Edge.same("one for two firms", firm.fewest(0, 0, 9), 4);
        firm.die(2);
        Edge.same("two for two firms", firm.fewest(0, 0, 9), 10);
        Desk ends = new Desk(EIGHT + "from 3 to 0 7 by 1 kinds 0 most 9;from 3 to 0 7 by 2 kinds 0 most 10;");
        Edge.same("the first alone", ends.fewest(3, 0, 9), 1);
        Edge.same("with the last", ends.fewest(3, 0, 10), 129);
        ends.die(0);
        Edge.same("the last alone", ends.fewest(3, 0, 9), 128);
    }

    private static void fewestNone() {
        Edge.of(FEWEST, "-2: none.");
        Desk desk = new Desk(FOUR + "from 0 to 1 3 by 2 kinds 1 most 9 till 0;");
        Edge.same("some", desk.fewest(0, 1, 9), 10);
        Edge.same("above it", desk.fewest(0, 1, 10), -2);
        Edge.same("another KIND", desk.fewest(0, 2, 9), -2);
        Edge.same("for another", desk.fewest(1, 1, 9), -2);
        desk.days(1);
        Edge.same("behind its DAY", desk.fewest(0, 1, 9), -2);
        Desk lone = new Desk("person;");
        Edge.same("nobody else is there", lone.fewest(0, 0, 0), -2);
    }

    private static void fewestOfNone() {
        Edge.of(FEWEST, "NONE: no such ones.");
        Desk desk = new Desk(FOUR + "from 3 to 1 by 1" + ANY + ";from 0 to 1 by 1" + ANY + ";");
        for (int party : Edge.outside(4)) {
            Edge.same("fewest(" + party + ", 0, 0)", desk.fewest(party, 0, 0), -1);
        }
        for (int kind : Edge.outside(6)) {
            Edge.same("fewest(0, " + kind + ", 0)", desk.fewest(0, kind, 0), -1);
        }
        for (int amount : Edge.outside(1000)) {
            Edge.same("fewest(0, 0, " + amount + ")", desk.fewest(0, 0, amount), -1);
        }
        Edge.same("the least", desk.fewest(0, 0, 0), 2);
        Edge.same("the greatest", desk.fewest(3, 5, 999), 2);
    }

    private static void hangBits() {
        Edge.of(HANG, "ACTS (bits) that BIND by POWER, and would not, had a POWER never been given");
        Desk desk = new Desk(FOUR + "from 0 to 1 by 1 kinds 0 most 50;from 0 to 1 3 by 1 kinds 0 1 most 40;");
        Edge.same("no ACTS", desk.hang(0), 0);
        desk.does(2, 0, 3, 0, 50);
        desk.does(2, 0, 3, 0, 40);
        desk.does(2, 0, 3, 1, 40);
        desk.does(2, 0, 3, 0, 51);
        desk.does(2, 0, 3, 0, 41);
        Edge.same("the first", desk.hang(0), 1 + 16);
        Edge.same("the second", desk.hang(1), 4);
        desk.approve(0);
        Edge.same("by APPROVAL, too", desk.hang(0), 1 + 16);
        desk.enter(0, false);
        desk.finish(0);
        desk.does(2, 0, 3, 0, 50);
        Edge.same("one by APPEARANCE", desk.binds(5), 2);
        Edge.same("does not BIND by POWER", desk.hang(0), 1 + 16);
        desk.finish(1);
        desk.die(1);
        Edge.same("as of their MOMENTS", desk.hang(0), 1 + 16);
        Edge.same("as of its MOMENT", desk.hang(1), 4);
        Desk full = new Desk(FOUR + "from 0 to 1 by 1 kinds 0 most 50;");
        for (int i = 0; i < 16; i++) {
            full.does(2, 0, 3, 0, i);
        }
        Edge.same("all sixteen", full.hang(0), 65535);
        Desk twenty = new Desk("person;person;person;" + Probe.times("from 0 to 2 by 1 kinds 0 most 5 sub;", 19)
            + "under 18 to 1 by 1 kinds 0 most 5;");
        twenty.does(2, 0, 2, 0, 5);
        for (int power = 0; power < 20; power++) {
            Edge.same("of twenty: hang(" + power + ")", twenty.hang(power), power < 18 ? 0 : 1);
        }
    }

    private static void hangUnder() {
        Edge.of(HANG, "(nor any under it).");
        Desk desk = new Desk("person;person;person;person;from 0 to 1 by 1 kinds 0 most 50 sub;"
            + "under 0 to 2 by 1 kinds 0 most 50 sub;under 1 to 3 by 1 kinds 0 most 50;from 0 to 3 by 1 kinds 0 most 40;");
        desk.does(2, 0, 3, 0, 50);
        desk.does(4, 0, 3, 0, 50);
        desk.does(8, 0, 1, 0, 50);
        desk.does(8, 0, 1, 0, 40);
        int[] due = {7, 6, 4, 0};
        for (int power = 0; power < 4; power++) {
            Edge.same("hang(" + power + ")", desk.hang(power), due[power]);
        }
        Desk firm = new Desk("person;person;person;firm;from 0 to 3 by 1 kinds 0 most 50;from 3 to 2 by 1 kinds 0 most 50 sub;"
            + "under 1 to 1 by 1 kinds 0 most 50;");
        firm.does(2, 0, 2, 0, 50);
        Edge.same("within a firm", firm.hang(0), 1);
        Edge.same("the upper one there", firm.hang(1), 1);
        Edge.same("the one that was used", firm.hang(2), 1);
    }

    private static void hangOfNone() {
        Edge.of(HANG, "NONE: no such one.");
        Desk desk = new Desk(FOUR + "from 0 to 1 by 1 kinds 0 most 50;from 0 to 1 by 1 kinds 1 most 50;");
        desk.does(2, 0, 3, 1, 50);
        for (int power : Edge.outside(2)) {
            Edge.same("hang(" + power + ")", desk.hang(power), -1);
        }
        Edge.same("the first", desk.hang(0), 0);
        Edge.same("the last", desk.hang(1), 1);
    }

    private static void boundTogether() {
        Edge.of(BOUND, "Amounts of all ACTS in the name of a PARTY that BIND (0: by whatever, as known now; 1 to 3: by that), "
            + "together.");
        Desk desk = new Desk(FOUR + "from 0 to 1 by 1 kinds 0 most 999;from 3 to 1 by 1 kinds 0 most 999;");
        sums(desk, 0, 0, 0, 0, 0);
        desk.does(2, 0, 3, 0, 0);
        sums(desk, 0, 0, 0, 0, 0);
        desk.does(2, 0, 3, 0, 999);
        desk.does(2, 0, 3, 0, 999);
        desk.does(2, 3, 0, 0, 500);
        sums(desk, 0, 1998, 1998, 0, 0);
        sums(desk, 3, 500, 500, 0, 0);
        desk.enter(0, false);
        desk.finish(0);
        desk.does(2, 0, 3, 0, 7);
        desk.does(2, 0, 3, 1, 30);
        desk.does(2, 0, 3, 1, 60);
        sums(desk, 0, 2005, 1998, 7, 0);
        desk.approve(5);
        sums(desk, 0, 2035, 1998, 7, 30);
        desk.giveUp(6);
        sums(desk, 0, 2035, 1998, 7, 30);
        sums(desk, 1, 0, 0, 0, 0);
        sums(desk, 2, 0, 0, 0, 0);
        Desk full = new Desk(FOUR + "from 0 to 1 by 1 kinds 0 most 999;");
        for (int i = 0; i < 17; i++) {
            full.does(2, 0, 3, 0, 999);
        }
        sums(full, 0, 15984, 15984, 0, 0);
    }

    private static void sums(Desk desk, int party, int... due) {
        for (int how = 0; how < 4; how++) {
            Edge.same("bound(" + party + ", " + how + ")", desk.bound(party, how), due[how]);
        }
    }

    private static void boundOfNone() {
        Edge.of(BOUND, "NONE: no such ones.");
        Desk desk = new Desk(FOUR);
        for (int party : Edge.outside(4)) {
            Edge.same("bound(" + party + ", 0)", desk.bound(party, 0), -1);
        }
        for (int how : Edge.outside(4)) {
            Edge.same("bound(0, " + how + ")", desk.bound(0, how), -1);
        }
        Edge.same("bound(0, 0)", desk.bound(0, 0), 0);
        Edge.same("bound(3, 3)", desk.bound(3, 3), 0);
    }
}
