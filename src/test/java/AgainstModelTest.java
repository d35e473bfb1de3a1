import java.util.NoSuchElementException;
import java.util.Random;

/** Runs of up to 512 calls, by a fixed seed, each answer compared with that of the Model. */
public final class AgainstModelTest {
    private static final String[] WORDS = {"person", "firm", "from", "under", "to", "by", "kinds", "most", "till", "sub",
        ";", "0", "1", "2", "5", "6", "7", "007", "999", "1000", "a", "x9", "9x", "boss", "\n", " ", "  ", "A", "-", "persona"};
    private static int runs = 400;
    private static final int CALLS = 512;

    private final Random random;
    private final AuthorityBook book = new AuthorityBook();
    private final Model model = new Model();
    private final StringBuilder story = new StringBuilder();
    private final int manner;
    private int calls = 0;
    private int wrong = 0;

    private AgainstModelTest(int seed) {
        random = new Random(seed);
        manner = seed % 4;
    }

    public static void main(String[] args) {
        int first = args.length > 1 ? Integer.parseInt(args[1]) : 0;
        runs = args.length > 0 ? Integer.parseInt(args[0]) : runs;
        for (int seed = first; seed < first + runs; seed++) {
            AgainstModelTest run = new AgainstModelTest(seed);
            run.runCalls();
            if (run.wrong != 0) {
                System.out.println("seed " + seed + ":" + run.story);
            }
            Probe.same("wrong answers with seed " + seed, run.wrong, 0);
        }
        Probe.finish("AgainstModelTest");
    }

    private int below(int n) {
        return random.nextInt(n);
    }

    private boolean chance(int percent) {
        return below(100) < percent;
    }

    /** An odd number once in a while, else one below n. */
    private int some(int n) {
        if (chance(3)) {
            int[] odd = {-1, -2, n, n + 1, 31, 32, 33, 64, Integer.MIN_VALUE, Integer.MAX_VALUE};
            return odd[below(odd.length)];
        }
        return n <= 0 ? 0 : below(n);
    }

    private void due(String call, int got, int want) {
        calls++;
        if (wrong == 0) {
            story.append("\n  ").append(call).append(" -> ").append(got);
        }
        if (got != want) {
            if (wrong == 0) {
                story.append(", due is ").append(want);
            }
            wrong++;
        }
    }

    private void runCalls() {
        // no run comes near the 512th call, behind which answers are free
        tell(chance(80) ? goodText() : brokenText());
        while (calls < CALLS - 60 && wrong == 0) {
            if (chance(manner == 0 ? 4 : 1)) {
                tell(chance(40) ? goodText() : brokenText());
            }
            if (chance(manner == 3 ? 70 : 40)) {
                putDown();
            } else {
                ask();
            }
        }
    }

    // ---- texts

    private void tell(String text) {
        for (int i = 0; i < text.length() && i < 840; i += 20) {
            int[] f = Probe.fives(text, i);
            due("feed", book.feed(f[0], f[1], f[2], f[3], f[4]), model.feed(f));
        }
        int end = text.length();
        due("end(" + end + ")", book.end(end) ? 1 : 0, model.end(end) ? 1 : 0);
        due("text() of \"" + text.replace("\n", "\\n") + "\"", book.text(), model.text());
        due("fault()", book.fault(), model.fault());
    }

    private String goodText() {
        StringBuilder text = new StringBuilder();
        boolean manyFirms = chance(50);
        int parties = 2 + below(7);
        boolean[] sub = new boolean[20];
        int[] giver = new int[20];
        int powers = 0;
        int told = 0;
        for (int i = 0; i < 40; i++) {
            if (told < parties && (told < 2 || chance(70))) {
                text.append(told > 1 && chance(manyFirms ? 60 : 25) ? "firm;" : "person;");
                told++;
            } else if (powers < 20 && text.length() < 720) {
                int upper = powers > 0 && chance(40) ? below(powers) : -1;
                upper = upper >= 0 && sub[upper] ? upper : -1;
                int from = upper >= 0 ? giver[upper] : below(told);
                giver[powers] = from;
                sub[powers] = chance(50);
                text.append(upper >= 0 ? "under " + upper : "from " + from);
                appendRest(text, told, from);
                text.append(sub[powers] ? " sub;" : ";").append(chance(10) ? "\n" : "");
                powers++;
            }
        }
        return text.toString();
    }

    private void appendRest(StringBuilder text, int told, int from) {
        int holders = 0;
        int wanted = 1 + below(3);
        for (int i = 0; i < 20 && Integer.bitCount(holders) < wanted; i++) {
            int p = below(told);
            holders |= p == from ? 0 : 1 << p;
        }
        holders = holders == 0 ? (from == 0 ? 2 : 1) : holders;
        text.append(" to").append(row(holders)).append(" by ");
        text.append(1 + (chance(60) ? 0 : below(Integer.bitCount(holders))));
        text.append(" kinds").append(row(chance(50) ? 1 + below(63) : 3)).append(" most ");
        text.append(chance(50) ? 40 + below(5) * 10 : below(1000));
        text.append(chance(20) ? " till " + (chance(80) ? below(12) : below(1000)) : "");
    }

    private String row(int bits) {
        StringBuilder row = new StringBuilder();
        boolean rising = chance(50);
        for (int i = 0; i < 8; i++) {
            int k = rising ? i : 7 - i;
            row.append((bits >> k & 1) != 0 ? " " + k : "");
        }
        return row.toString();
    }

    /** As many PARTIES or POWERS as there may be, and sometimes one more. */
    private String crowdedText() {
        String parties = Probe.times(chance(50) ? "firm;" : "person;", chance(50) ? 2 : 7 + below(3));
        return parties + Probe.times("from 0 to 1 by 1 kinds 0 most 9;", 18 + below(4)) + (chance(50) ? "firm;" : "");
    }

    private String brokenText() {
        StringBuilder text = new StringBuilder(chance(80) ? goodText() : crowdedText());
        for (int i = chance(60) ? 1 : 3; i > 0; i--) {
            int at = below(text.length() + 1);
            if (chance(40)) {
                String put = WORDS[below(WORDS.length)];
                text.insert(at, chance(50) ? put : " " + put + " ");
            } else if (chance(30)) {
                text.setLength(at);
            } else if (at < text.length()) {
                text.setCharAt(at, chance(20) ? (char) below(256) : chance(50) ? (char) ('0' + below(10)) : ' ');
            }
        }
        if (chance(30)) {
            int at = below(text.length() + 1);
            int room = 760 + below(81) - text.length();
            text.insert(chance(50) ? at : text.length(), Probe.times(" ", Math.max(0, room)));
        }
        text.setLength(Math.min(text.length(), 840));
        return text.toString();
    }

    // ---- calls

    private int persons() {
        int all = some(1 << Math.max(1, model.now(0)));
        return chance(90) ? all & ~model.now(5) : all;
    }

    private int personsFor(int party) {
        int all = persons();
        return chance(90) && party >= 0 && party < 8 ? all & ~(1 << party) : all;
    }

    private int party() {
        return some(model.now(0));
    }

    private int power() {
        return some(model.now(1));
    }

    private int act() {
        return some(model.now(4));
    }

    private int kind() {
        return chance(70) ? below(2) : some(6);
    }

    private int amount() {
        return chance(80) ? below(9) * 10 : chance(10) ? 1000 : some(1000);
    }

    private void putDown() {
        int power = power();
        int act = act();
        int party = party();
        int call = manner == 2 && chance(70) ? 1 + below(2) : below(manner == 3 ? 8 : 12);
        switch (call) {
            case 0: {
                int kinds = chance(70) ? 63 ^ 1 << below(6) : some(64);
                int amount = amount();
                due("narrow(" + power + ", " + kinds + ", " + amount + ")", book.narrow(power, kinds, amount),
                    model.narrow(power, kinds, amount));
                break;
            }
            case 1:
                due("finish(" + power + ")", book.finish(power), model.finish(power));
                break;
            case 2: case 3: {
                boolean end = chance(20);
                due("enter(" + power + ", " + end + ")", book.enter(power, end), model.enter(power, end));
                break;
            }
            case 4:
                due("notice(" + party + ", " + power + ")", book.notice(party, power), model.notice(party, power));
                break;
            case 5:
                if (chance(manner == 1 ? 60 : manner == 2 ? 2 : 8)) {
                    due("die(" + party + ")", book.die(party), model.die(party));
                }
                break;
            case 6:
                due("approve(" + act + ")", book.approve(act), model.approve(act));
                break;
            case 7:
                due("giveUp(" + act + ")", book.giveUp(act), model.giveUp(act));
                break;
            case 8: {
                int n = chance(80) ? 1 + below(3) : some(100);
                due("days(" + n + ")", book.days(n), model.days(n));
                break;
            }
            default:
                // acts are few, so they are spread over the run
                if (manner != 2 || chance(40)) {
                    actOf(party);
                }
        }
    }

    /** Mostly by those who hold some POWER, in the name of who gave it. */
    private void actOf(int anyParty) {
        int power = power();
        boolean likely = chance(70) && power >= 0 && power < model.now(1);
        int party = likely ? model.power(power, 0) : anyParty;
        int persons = personsFor(party);
        if (likely) {
            int holders = model.power(power, 1) & ~model.now(5);
            persons = holders == 0 ? persons : chance(80) ? holders : holders | persons;
        }
        int third = party();
        int kind = kind();
        int amount = amount();
        if (chance(90) && third >= 0 && third < 8) {
            persons &= ~(1 << third);
        }
        due("does(" + persons + ", " + party + ", " + third + ", " + kind + ", " + amount + ")",
            book.does(persons, party, third, kind, amount), model.does(persons, party, third, kind, amount));
    }

    private void ask() {
        int power = power();
        int act = act();
        int party = party();
        int persons = personsFor(party);
        int kind = kind();
        int amount = amount();
        String three = "(" + party + ", " + kind + ", " + amount + ")";
        switch (below(16)) {
            case 0: {
                int what = some(8);
                due("now(" + what + ")", book.now(what), model.now(what));
                break;
            }
            case 1: {
                int what = some(8);
                due("power(" + power + ", " + what + ")", Probe.power(book, power, what), modelPower(power, what));
                break;
            }
            case 2: case 3: {
                int moment = some(model.now(2) + 1);
                int what = some(3);
                due("scope(" + power + ", " + moment + ", " + what + ")", book.scope(power, moment, what),
                    model.scope(power, moment, what));
                break;
            }
            case 4:
                due("over(" + power + ")", book.over(power), model.over(power));
                break;
            case 5: {
                int what = some(3);
                due("entry(" + power + ", " + what + ")", book.entry(power, what), model.entry(power, what));
                break;
            }
            case 6: {
                int what = some(9);
                due("act(" + act + ", " + what + ")", Probe.act(book, act, what), modelAct(act, what));
                break;
            }
            case 7: {
                int moment = chance(50) ? model.now(2) : some(model.now(2) + 1);
                due("binds(" + act + ", " + moment + ")", book.binds(act, moment), model.binds(act, moment));
                break;
            }
            case 8:
                due("used(" + act + ")", book.used(act), model.used(act));
                break;
            case 9: case 10:
                due("can(" + persons + ", " + party + ", " + kind + ", " + amount + ")",
                    book.can(persons, party, kind, amount), model.can(persons, party, kind, amount));
                break;
            case 11:
                due("upTo(" + persons + ", " + party + ", " + kind + ")", book.upTo(persons, party, kind),
                    model.upTo(persons, party, kind));
                break;
            case 12:
                due("alone" + three, book.alone(party, kind, amount), model.alone(party, kind, amount));
                break;
            case 13:
                due("fewest" + three, book.fewest(party, kind, amount), model.fewest(party, kind, amount));
                break;
            case 14:
                due("hang(" + power + ")", book.hang(power), model.hang(power));
                break;
            default: {
                int how = some(4);
                int i = some(70);
                due("bound(" + party + ", " + how + ")", book.bound(party, how), model.bound(party, how));
                due("letter(" + power + ", " + i + ")", book.letter(power, i), model.letter(power, i));
            }
        }
    }

    private int modelPower(int power, int what) {
        try {
            return model.power(power, what);
        } catch (NoSuchElementException e) {
            return Probe.THROWN;
        }
    }

    private int modelAct(int act, int what) {
        try {
            return model.act(act, what);
        } catch (NoSuchElementException e) {
            return Probe.THROWN;
        }
    }
}
