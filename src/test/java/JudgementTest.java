/** Promises 12 to 19: who CAN, what BINDS, what was USED, what hangs on a POWER. */
public final class JudgementTest {
    private static final String FOUR = "person;person;firm;person;";
    private static final String ANY = " kinds 0 1 2 3 4 5 most 999";

    public static void main(String[] args) {
        whoCan();
        firmsWithin();
        atMostThreeFirms();
        firmsRound();
        theDead();
        wrongOnes();
        amounts();
        aloneAndFewest();
        bindsByPower();
        bindsByAppearance();
        bindsByApproval();
        usedPowers();
        hanging();
        boundAmounts();
        asMuchAsThereCanBe();
        Probe.finish("JudgementTest");
    }

    private static void whoCan() {
        AuthorityBook book = Probe.book(FOUR + "from 3 to 0 by 1 kinds 0 most 900;from 0 to 1 3 by 2 kinds 1 most 50;"
            + "from 0 to 3 by 1 kinds 1 2 most 40 till 2 sub;under 2 to 1 by 1 kinds 2 3 most 60;");
        Probe.same("both, within 50", book.can(10, 0, 1, 50), 1);
        Probe.same("both, 51", book.can(10, 0, 1, 51), -2);
        Probe.same("the least number", book.can(10, 0, 1, 40), 1);
        Probe.same("3 alone", book.can(8, 0, 1, 40), 2);
        Probe.same("1 alone, of kind 1", book.can(2, 0, 1, 0), -2);
        Probe.same("1 alone, of kind 2", book.can(2, 0, 2, 40), 3);
        Probe.same("1 alone, above the upper", book.can(2, 0, 2, 41), -2);
        Probe.same("1 alone, kind 3 is not the upper's", book.can(2, 0, 3, 1), -2);
        Probe.same("a power of another", book.can(2, 3, 0, 1), -2);
        Probe.same("for 3", book.can(1, 3, 0, 900), 0);
        Probe.same("for 3 with one too many", book.can(3, 3, 0, 900), 0);
        book.narrow(2, 4, 10);
        Probe.same("1 alone, the upper is narrowed", book.can(2, 0, 2, 11), -2);
        Probe.same("1 alone, within what is left", book.can(2, 0, 2, 10), 3);
        book.days(2);
        Probe.same("on the last DAY", book.can(2, 0, 2, 10), 3);
        book.days(1);
        Probe.same("the DAY as it is", book.can(2, 0, 2, 10), -2);
    }

    private static void firmsWithin() {
        // 0 person, 1 and 2 persons, 3 and 4 firms
        AuthorityBook book = Probe.book("person;person;person;firm;firm;"
            + "from 3 to 1 by 1 kinds 0 most 10;from 0 to 1 3 4 by 3 kinds 0 1 most 100;"
            + "from 3 to 1 2 by 2 kinds 0 1 most 60;from 4 to 3 by 1 kinds 0 1 most 80;from 0 to 3 by 1 kinds 0 most 5;");
        Probe.same("one person for three HOLDERS", book.can(2, 0, 0, 10), 1);
        Probe.same("two persons above the first", book.can(6, 0, 0, 11), 1);
        Probe.same("one can't above the first", book.can(2, 0, 0, 11), -2);
        Probe.same("the least of the firms' amounts", book.can(6, 0, 1, 60), 1);
        Probe.same("above it", book.can(6, 0, 1, 61), -2);
        Probe.same("without person 1 nobody ACTS", book.can(4, 0, 0, 1), -2);
        Probe.same("for the firm within", book.can(6, 4, 1, 60), 3);
        book.finish(2);
        Probe.same("the firm's power is ENDED", book.can(6, 0, 1, 60), -2);
        book.die(4);
        Probe.same("a firm struck off", book.can(2, 0, 0, 10), -2);
        Probe.same("by another power", book.can(2, 0, 0, 5), 4);
    }

    private static void atMostThreeFirms() {
        // 0 and 1 persons; 2 to 6 firms, each held by the next, the last by person 1
        String chain = "person;person;firm;firm;firm;firm;firm;from 6 to 1 by 1" + ANY + ";from 5 to 6 by 1" + ANY
            + ";from 4 to 5 by 1" + ANY + ";from 3 to 4 by 1" + ANY + ";from 2 to 3 by 1" + ANY + ";";
        AuthorityBook book = Probe.book(chain + "from 0 to 4 by 1" + ANY + ";from 0 to 3 by 1" + ANY + ";");
        Probe.same("for the last firm", book.can(2, 6, 0, 1), 0);
        Probe.same("one firm within", book.can(2, 5, 0, 1), 1);
        Probe.same("two firms within", book.can(2, 4, 0, 1), 2);
        Probe.same("three firms within", book.can(2, 3, 0, 1), 3);
        Probe.same("four firms within", book.can(2, 2, 0, 1), -2);
        Probe.same("for a person, three firms within", book.can(2, 0, 0, 1), 5);
        book.finish(5);
        Probe.same("for a person, four firms within", book.can(2, 0, 0, 1), -2);
    }

    private static void firmsRound() {
        // firms 2 and 3 hold each other's powers, person 1 comes in by the last one
        AuthorityBook book = Probe.book("person;person;firm;firm;from 2 to 3 by 1" + ANY + ";from 3 to 2 by 1" + ANY
            + ";from 2 to 1 by 1" + ANY + ";");
        Probe.same("the least number, round the firms", book.can(2, 2, 0, 1), 0);
        book.does(2, 2, 0, 0, 1);
        Probe.same("all that are used", book.used(0), 7);
        book.finish(2);
        Probe.same("nobody comes in", book.can(2, 2, 0, 1), -2);
    }

    private static void theDead() {
        AuthorityBook book = Probe.book("person;person;person;person;from 0 to 1 2 3 by 2 kinds 0 most 9;");
        Probe.same("two of three", book.can(6, 0, 0, 1), 0);
        book.die(1);
        Probe.same("one of them has DIED", book.can(6, 0, 0, 1), -2);
        Probe.same("the others", book.can(12, 0, 0, 1), 0);
        Probe.same("all of them", book.can(14, 0, 0, 1), 0);
        Probe.same("fewest of the living", book.fewest(0, 0, 1), 12);
        book.die(0);
        Probe.same("who gave it", book.can(12, 0, 0, 1), -2);
    }

    private static void wrongOnes() {
        AuthorityBook book = Probe.book(FOUR + "from 0 to 1 by 1" + ANY + ";");
        int[][] none = {{0, 0, 0, 0}, {1, 0, 0, 0}, {3, 0, 0, 0}, {4, 0, 0, 0}, {6, 0, 0, 0}, {16, 0, 0, 0}, {18, 0, 0, 0},
            {-1, 0, 0, 0}, {Integer.MIN_VALUE, 0, 0, 0}, {2, -1, 0, 0}, {2, 4, 0, 0}, {2, 33, 0, 0}, {2, 0, -1, 0},
            {2, 0, 6, 0}, {2, 0, 32, 0}, {2, 0, 0, -1}, {2, 0, 0, 1000}, {2, 1, 0, 0}, {258, 0, 0, 0}};
        for (int[] n : none) {
            String of = "(" + n[0] + ", " + n[1] + ", " + n[2] + ", " + n[3] + ")";
            Probe.same("can" + of, book.can(n[0], n[1], n[2], n[3]), -1);
            if (n[3] == 0) {
                Probe.same("upTo" + of, book.upTo(n[0], n[1], n[2]), -1);
            }
        }
        int[][] noOnes = {{-1, 0, 0}, {4, 0, 0}, {0, -1, 0}, {0, 6, 0}, {0, 0, -1}, {0, 0, 1000}};
        for (int[] n : noOnes) {
            Probe.same("alone", book.alone(n[0], n[1], n[2]), -1);
            Probe.same("fewest", book.fewest(n[0], n[1], n[2]), -1);
        }
        Probe.same("the greatest", book.can(2, 0, 5, 999), 0);
        Probe.same("none known for a firm", book.can(2, 2, 0, 0), -2);
        AuthorityBook eight = Probe.book(Probe.times("person;", 8) + "from 0 to 7 by 1" + ANY + ";");
        Probe.same("the eighth", eight.can(128, 0, 0, 0), 0);
        Probe.same("a ninth", eight.can(256, 0, 0, 0), -1);
    }

    private static void amounts() {
        AuthorityBook book = Probe.book("person;person;person;firm;from 0 to 1 by 1 kinds 0 most 0;"
            + "from 0 to 1 2 by 2 kinds 0 1 most 999;from 0 to 3 by 1 kinds 0 most 500;from 3 to 2 by 1 kinds 0 most 321;");
        Probe.same("0 is an amount", book.upTo(2, 0, 0), 0);
        Probe.same("none at all", book.upTo(2, 0, 1), -2);
        Probe.same("the greatest", book.upTo(6, 0, 1), 999);
        Probe.same("of another power than the first", book.upTo(6, 0, 0), 999);
        Probe.same("through the firm", book.upTo(4, 0, 0), 321);
        book.narrow(2, 63, 320);
        Probe.same("narrowed", book.upTo(4, 0, 0), 320);
        book.narrow(2, 62, 320);
        Probe.same("no kind left", book.upTo(4, 0, 0), -2);
        for (int most = 0; most <= 999; most += 37) {
            AuthorityBook one = Probe.book("person;person;from 0 to 1 by 1 kinds 0 most " + most + ";");
            Probe.same("most " + most, one.upTo(2, 0, 0), most);
        }
    }

    private static void aloneAndFewest() {
        AuthorityBook book = Probe.book("person;firm;person;person;person;"
            + "from 0 to 2 3 4 by 3 kinds 0 most 90;from 0 to 1 by 1 kinds 0 most 80;from 1 to 2 4 by 2 kinds 0 most 70;"
            + "from 1 to 3 4 by 2 kinds 0 most 60;from 0 to 3 4 by 1 kinds 0 most 50;");
        Probe.same("alone within 50", book.alone(0, 0, 50), 24);
        Probe.same("alone above it", book.alone(0, 0, 51), 0);
        Probe.same("fewest 50", book.fewest(0, 0, 50), 8);
        Probe.same("fewest 60", book.fewest(0, 0, 60), 20);
        Probe.same("fewest 70", book.fewest(0, 0, 70), 20);
        Probe.same("fewest 71", book.fewest(0, 0, 71), 28);
        Probe.same("fewest 91", book.fewest(0, 0, 91), -2);
        Probe.same("fewest of another kind", book.fewest(0, 1, 1), -2);
        Probe.same("alone for the firm", book.alone(1, 0, 1), 0);
        Probe.same("fewest for the firm", book.fewest(1, 0, 60), 20);
        AuthorityBook later = Probe.book("person;person;person;person;from 0 to 1 2 by 2 kinds 0 most 9;"
            + "from 0 to 3 by 1 kinds 0 most 9;");
        Probe.same("fewer is ahead of less", later.fewest(0, 0, 1), 8);
    }

    private static void bindsByPower() {
        AuthorityBook book = Probe.book("person;person;person;from 0 to 1 by 1 kinds 0 most 50 till 5;");
        book.does(2, 0, 2, 0, 50);
        book.does(2, 0, 2, 0, 51);
        book.days(5);
        book.does(2, 0, 2, 0, 50);
        book.days(1);
        book.does(2, 0, 2, 0, 50);
        book.narrow(0, 0, 0);
        book.finish(0);
        book.die(1);
        int[] due = {1, 0, 1, 0};
        for (int act = 0; act < 4; act++) {
            Probe.same("judged as of its own MOMENT: " + act, book.binds(act, book.now(2)), due[act]);
            Probe.same("as known then: " + act, book.binds(act, act + 1), due[act]);
            Probe.same("ahead of it: " + act, book.binds(act, act), -1);
        }
        Probe.same("no such MOMENT", book.binds(0, 8), -1);
        Probe.same("below 0", book.binds(0, -1), -1);
        Probe.same("no such ACT", book.binds(4, 7), -1);
        Probe.same("no ACT below 0", book.binds(-1, 7), -1);
    }

    private static void bindsByAppearance() {
        String text = "person;person;person;person;from 0 to 1 by 1 kinds 0 most 50 till 5 sub;"
            + "under 0 to 1 by 1 kinds 0 most 40;";
        AuthorityBook book = Probe.book(text);
        book.finish(0);
        Probe.same("not ENTERED", bindsNow(book, 2, 0, 2, 50), 0);

        book = Probe.book(text);
        book.enter(0, false);
        book.finish(0);
        Probe.same("ENTERED", bindsNow(book, 2, 0, 2, 50), 2);
        Probe.same("its SCOPE still counts", bindsNow(book, 2, 0, 2, 51), 0);
        book.notice(3, 0);
        Probe.same("another had a NOTICE", bindsNow(book, 2, 0, 2, 50), 2);
        Probe.same("the third had a NOTICE", bindsNow(book, 2, 0, 3, 50), 0);
        book.days(6);
        Probe.same("its DAY still counts", bindsNow(book, 2, 0, 2, 50), 0);

        book = Probe.book(text);
        book.enter(0, false);
        book.finish(0);
        book.does(2, 0, 2, 0, 1);
        book.enter(0, true);
        book.notice(2, 0);
        Probe.same("what comes later changes nothing", book.binds(0, 5), 2);
        Probe.same("the end is ENTERED", bindsNow(book, 2, 0, 3, 50), 0);

        book = Probe.book(text);
        book.enter(0, false);
        book.finish(0);
        book.finish(1);
        Probe.same("the upper appears", bindsNow(book, 2, 0, 2, 40), 2);
        Probe.same("by the upper", book.used(0), 1);

        book = Probe.book("person;person;person;person;from 0 to 3 by 1 kinds 0 most 50 sub;"
            + "under 0 to 1 by 1 kinds 0 most 40;");
        book.enter(0, false);
        book.enter(1, false);
        book.finish(1);
        Probe.same("the lower appears", bindsNow(book, 2, 0, 2, 40), 2);
        book.finish(0);
        Probe.same("both appear", bindsNow(book, 2, 0, 2, 40), 2);
        Probe.same("by the lower", book.used(1), 2);
        book.enter(0, true);
        Probe.same("the upper no more", bindsNow(book, 2, 0, 2, 40), 0);
        appearanceOfFirms();
    }

    private static void appearanceOfFirms() {
        AuthorityBook book = Probe.book("person;person;person;firm;from 0 to 3 by 1 kinds 0 most 50;"
            + "from 3 to 1 by 1 kinds 0 most 40;from 0 to 1 by 1 kinds 0 most 30;");
        book.enter(1, false);
        book.finish(1);
        Probe.same("within a firm", bindsNow(book, 2, 0, 2, 40), 2);
        Probe.same("used", book.used(0), 3);
        Probe.same("by POWER is ahead", bindsNow(book, 2, 0, 2, 30), 1);
        Probe.same("used by POWER", book.used(1), 4);
        book.die(3);
        Probe.same("a firm struck off", bindsNow(book, 2, 0, 2, 40), 0);
    }

    private static int bindsNow(AuthorityBook book, int persons, int party, int third, int amount) {
        int act = book.does(persons, party, third, 0, amount);
        return book.binds(act, book.now(2));
    }

    private static void bindsByApproval() {
        AuthorityBook book = Probe.book("person;person;person;from 0 to 1 by 1 kinds 0 most 50;");
        book.does(2, 0, 2, 1, 50);
        book.does(2, 0, 2, 0, 50);
        book.die(1);
        book.approve(0);
        book.approve(1);
        Probe.same("ahead of the approval", book.binds(0, 3), 0);
        Probe.same("at the approval", book.binds(0, 4), 3);
        Probe.same("behind the approval", book.binds(0, 5), 3);
        Probe.same("by POWER is ahead", book.binds(1, 5), 1);
        Probe.same("nothing was used", book.used(0), 0);
    }

    private static void usedPowers() {
        // 0 to 2 persons, 3 to 5 firms
        AuthorityBook book = Probe.book("person;person;person;firm;firm;firm;"
            + "from 3 to 2 by 1 kinds 0 most 9;from 0 to 3 4 5 1 by 2 kinds 0 most 99;from 4 to 3 1 by 1 kinds 0 most 8;"
            + "from 5 to 2 1 by 2 kinds 0 most 9;from 5 to 1 by 1 kinds 1 most 9;");
        book.does(4, 0, 1, 0, 8);
        Probe.same("all firms that ACT", book.used(0), 7);
        book.does(4, 0, 1, 0, 9);
        Probe.same("too few", book.used(1), 0);
        book.does(6, 0, 5, 0, 9);
        Probe.same("more than enough", book.used(2), 11);
        book.does(2, 0, 2, 0, 8);
        Probe.same("one of two firms", book.used(3), 6);
        Probe.same("can tells the giver's own", book.can(4, 0, 0, 8), 1);
        Probe.same("no such ACT", book.used(4), -1);
        Probe.same("no ACT below 0", book.used(-1), -1);
    }

    private static void hanging() {
        AuthorityBook book = Probe.book("person;person;person;firm;from 0 to 1 by 1 kinds 0 most 50 sub;"
            + "under 0 to 1 by 1 kinds 0 most 50;from 0 to 3 by 1 kinds 0 most 40;from 3 to 1 by 1 kinds 0 most 30;"
            + "from 0 to 1 by 1 kinds 1 most 9;");
        book.does(2, 0, 2, 0, 50);
        book.does(2, 0, 2, 0, 30);
        book.does(2, 0, 2, 1, 9);
        book.finish(0);
        book.does(2, 0, 2, 0, 30);
        book.does(2, 0, 2, 0, 31);
        book.finish(4);
        book.finish(3);
        int[] due = {1, 0, 8, 8, 4};
        for (int power = 0; power < 5; power++) {
            Probe.same("hang(" + power + ")", book.hang(power), due[power]);
        }
        Probe.same("hang(-1)", book.hang(-1), -1);
        Probe.same("hang(5)", book.hang(5), -1);

        AuthorityBook seen = Probe.book("person;person;person;from 0 to 1 by 1 kinds 0 most 50;"
            + "from 0 to 1 by 1 kinds 0 most 50;");
        seen.enter(0, false);
        seen.finish(0);
        seen.does(2, 0, 2, 0, 50);
        seen.approve(0);
        Probe.same("by POWER no more, whatever else", seen.hang(1), 1);
        Probe.same("the other was not needed", seen.hang(0), 0);
        seen.finish(1);
        seen.does(2, 0, 2, 0, 50);
        Probe.same("by appearance does not count", seen.hang(0) + seen.hang(1), 1);

        AuthorityBook dead = Probe.book("person;person;person;person;from 0 to 1 2 by 1 kinds 0 most 50;"
            + "from 0 to 1 by 1 kinds 0 most 50;");
        dead.does(2, 0, 3, 0, 50);
        dead.die(1);
        Probe.same("who lived at its MOMENT", dead.hang(0) + dead.hang(1), 0);
    }

    private static void asMuchAsThereCanBe() {
        // 0 to 3 persons, 4 to 7 firms, the last POWERS alone reach the persons
        StringBuilder text = new StringBuilder("person;person;person;person;firm;firm;firm;firm;");
        for (int i = 0; i < 18; i++) {
            text.append("from ").append(4 + i % 4).append(" to ").append(4 + (i + 1) % 4).append(" by 1 kinds 0 most 9 sub;");
        }
        text.append("from 7 to 3 by 1 kinds 0 most 9;from 0 to 7 by 1 kinds 0 most 9;");
        AuthorityBook book = Probe.book(text.toString());
        Probe.same("POWERS", book.now(1), 20);
        Probe.same("by the last", book.can(8, 0, 0, 9), 19);
        Probe.same("up to", book.upTo(8, 0, 0), 9);
        Probe.same("alone", book.alone(0, 0, 9), 8);
        Probe.same("fewest", book.fewest(0, 0, 9), 8);
        Probe.same("three firms, by the least number", book.can(8, 5, 0, 9), 1);
        book.does(8, 0, 1, 0, 9);
        Probe.same("the last two are used", book.used(0), 3 << 18);
        Probe.same("the last is needed", book.hang(19), 1);
        Probe.same("the first is not", book.hang(0), 0);
        Probe.same("scope of the last", book.scope(19, 1, 0), 1);
    }

    private static void boundAmounts() {
        AuthorityBook book = Probe.book("person;person;person;from 0 to 1 by 1 kinds 0 most 999;"
            + "from 2 to 1 by 1 kinds 0 most 999;");
        book.enter(0, false);
        book.does(2, 0, 2, 0, 999);
        book.does(2, 0, 2, 0, 1);
        book.does(2, 2, 0, 0, 7);
        book.finish(0);
        book.does(2, 0, 2, 0, 20);
        book.does(2, 0, 2, 1, 300);
        Probe.same("ahead of the approval", book.bound(0, 0), 1020);
        book.approve(4);
        book.does(2, 0, 2, 1, 500);
        book.giveUp(5);
        int[] due = {1320, 1000, 20, 300};
        for (int how = 0; how < 4; how++) {
            Probe.same("bound(0, " + how + ")", book.bound(0, how), due[how]);
        }
        Probe.same("bound(2, 0)", book.bound(2, 0), 7);
        Probe.same("bound(1, 0)", book.bound(1, 0), 0);
        int[][] none = {{-1, 0}, {3, 0}, {0, -1}, {0, 4}};
        for (int[] one : none) {
            Probe.same("bound(" + one[0] + ", " + one[1] + ")", book.bound(one[0], one[1]), -1);
        }
    }
}
