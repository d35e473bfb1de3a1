import java.util.Arrays;
import java.util.NoSuchElementException;

/** A register of authority: who gave which powers to whom, and whether acts in another's name bound that one. */
public final class AuthorityBook {
    public static final int NONE = -1;

    private static final int MOST_PARTIES = 8;
    private static final int MOST_POWERS = 20;
    private static final int MOST_ACTS = 16;
    private static final int MOST_MOMENTS = 300;
    private static final int KIND_COUNT = 6;
    private static final int MOST_AMOUNT = 999;
    private static final int LAST_DAY = 999;
    private static final int MOST_DAYS_AT_ONCE = 99;
    private static final int FIRMS_WITHIN = 3;

    private static final int BY_POWER = 1;
    private static final int BY_APPEARANCE = 2;
    private static final int BY_APPROVAL = 3;

    private static final int OVER_BY_END = 1;
    private static final int OVER_BY_DAY = 2;
    private static final int OVER_BY_GIVER = 3;
    private static final int OVER_BY_HOLDERS = 4;
    private static final int OVER_BY_UPPER = 5;

    private final Tape tape;
    private final TextReader reader;
    private final Log log;
    private final Judge judge;
    private final LineWriter writer;
    private final Act[] acts;
    private int actCount;
    private int faultKind;
    private Told told;
    private Told spare;

    public AuthorityBook() {
        tape = new Tape();
        reader = new TextReader(tape);
        log = new Log();
        judge = new Judge();
        writer = new LineWriter();
        acts = new Act[MOST_ACTS];
        for (int i = 0; i < MOST_ACTS; i++) {
            acts[i] = new Act();
        }
        told = new Told();
        spare = new Told();
    }

    // ---- the tape and the TEXT

    public int feed(int a, int b, int c, int d, int e) {
        if (!tape.takesTwenty()) {
            return NONE;
        }
        tape.append(a);
        tape.append(b);
        tape.append(c);
        tape.append(d);
        tape.append(e);
        return tape.length;
    }

    public boolean end(int n) {
        if (n < 0 || n > tape.length) {
            return false;
        }
        tape.length = n;
        return true;
    }

    public int text() {
        boolean good = reader.readText(spare);
        tape.length = 0;
        faultKind = reader.faultKind;
        if (!good) {
            return -1 - reader.faultPlace;
        }
        Told old = told;
        told = spare;
        spare = old;
        log.startAnew();
        actCount = 0;
        return told.partyCount + told.powerCount;
    }

    public int fault() {
        return faultKind;
    }

    // ---- what stands

    public int now(int what) {
        switch (what) {
            case 0: return told.partyCount;
            case 1: return told.powerCount;
            case 2: return log.moment;
            case 3: return log.day;
            case 4: return actCount;
            case 5: return told.firms;
            case 6: return log.deadBy(log.moment);
            case 7: return tape.length;
            default: return NONE;
        }
    }

    public int power(int power, int what) throws NoSuchElementException {
        if (!isPower(power)) {
            throw new NoSuchElementException("no such POWER");
        }
        Power one = told.powers[power];
        switch (what) {
            case 0: return one.giver;
            case 1: return one.holders;
            case 2: return one.together;
            case 3: return one.kinds;
            case 4: return one.most;
            case 5: return one.till;
            case 6: return one.sub ? 1 : 0;
            case 7: return one.under;
            default: throw new NoSuchElementException("no such thing of a POWER");
        }
    }

    public int scope(int power, int moment, int what) {
        if (!isPower(power) || !isMoment(moment)) {
            return NONE;
        }
        switch (what) {
            case 0: return wasLive(power, moment) ? 1 : 0;
            case 1: return kindsAt(power, moment);
            case 2: return mostAt(power, moment);
            default: return NONE;
        }
    }

    public int over(int power) {
        if (!isPower(power)) {
            return NONE;
        }
        int own = reasonAt(told.powers[power], log.moment, log.day);
        if (own != 0) {
            return own;
        }
        return liveAt(power, log.moment, log.day) ? 0 : OVER_BY_UPPER;
    }

    public int entry(int power, int what) {
        if (!isPower(power)) {
            return NONE;
        }
        Power one = told.powers[power];
        switch (what) {
            case 0: return one.endedAt;
            case 1: return one.enteredAt;
            case 2: return one.endEnteredAt;
            default: return NONE;
        }
    }

    public int letter(int power, int i) {
        if (!isPower(power)) {
            return NONE;
        }
        writer.writeLine(told.powers[power]);
        return i >= 0 && i < writer.length ? writer.bytes[i] : NONE;
    }

    // ---- ACTS and what binds

    public int act(int act, int what) throws NoSuchElementException {
        if (!isAct(act)) {
            throw new NoSuchElementException("no such ACT");
        }
        Act one = acts[act];
        switch (what) {
            case 0: return one.persons;
            case 1: return one.party;
            case 2: return one.third;
            case 3: return one.kind;
            case 4: return one.amount;
            case 5: return one.moment;
            case 6: return one.day;
            case 7: return one.approvedAt;
            case 8: return one.givenUpAt;
            default: throw new NoSuchElementException("no such thing of an ACT");
        }
    }

    public int binds(int act, int moment) {
        if (!isAct(act) || !isMoment(moment) || moment < acts[act].moment) {
            return NONE;
        }
        return acts[act].howKnownAt(moment);
    }

    public int used(int act) {
        return isAct(act) ? acts[act].usedPowers : NONE;
    }

    public int hang(int power) {
        if (!isPower(power)) {
            return NONE;
        }
        int without = ~told.withAllUnder(power);
        int hanging = 0;
        for (int i = 0; i < actCount; i++) {
            Act one = acts[i];
            if (one.how == BY_POWER) {
                judge.weigh(told, one.openPowers & without, log.deadBy(one.moment), one.persons, one.party);
                hanging |= judge.first == NONE ? 1 << i : 0;
            }
        }
        return hanging;
    }

    public int bound(int party, int how) {
        if (!isParty(party) || how < 0 || how > BY_APPROVAL) {
            return NONE;
        }
        int sum = 0;
        for (int i = 0; i < actCount; i++) {
            int known = acts[i].howKnownAt(log.moment);
            if (acts[i].party == party && known != 0 && (how == 0 || how == known)) {
                sum += acts[i].amount;
            }
        }
        return sum;
    }

    // ---- who CAN, now

    public int can(int persons, int party, int kind, int amount) {
        if (!mayActFor(persons, party) || !isKind(kind) || !isAmount(amount)) {
            return NONE;
        }
        weighNow(openPowers(kind, amount, NONE), persons, party);
        return judge.first == NONE ? -2 : judge.first;
    }

    public int upTo(int persons, int party, int kind) {
        if (!mayActFor(persons, party) || !isKind(kind)) {
            return NONE;
        }
        int low = -1;
        int high = MOST_AMOUNT;
        // who CAN up to an amount CAN below it, too; ten halvings are enough for 1001 outcomes
        for (int i = 0; i < MOST_AMOUNT && low < high; i++) {
            int middle = low + (high - low + 1) / 2;
            weighNow(openPowers(kind, middle, NONE), persons, party);
            if (judge.first != NONE) {
                low = middle;
            } else {
                high = middle - 1;
            }
        }
        return low < 0 ? -2 : low;
    }

    public int alone(int party, int kind, int amount) {
        if (!isParty(party) || !isKind(kind) || !isAmount(amount)) {
            return NONE;
        }
        int open = openPowers(kind, amount, NONE);
        int actors = actorsFor(party);
        int found = 0;
        for (int i = 0; i < told.partyCount; i++) {
            if (has(actors, i)) {
                weighNow(open, 1 << i, party);
                found |= judge.first == NONE ? 0 : 1 << i;
            }
        }
        return found;
    }

    public int fewest(int party, int kind, int amount) {
        if (!isParty(party) || !isKind(kind) || !isAmount(amount)) {
            return NONE;
        }
        int open = openPowers(kind, amount, NONE);
        int actors = actorsFor(party);
        int found = -2;
        int size = MOST_PARTIES + 1;
        for (int set = 1; set < 1 << told.partyCount; set++) {
            if ((set & ~actors) == 0 && Integer.bitCount(set) < size) {
                weighNow(open, set, party);
                if (judge.first != NONE) {
                    found = set;
                    size = Integer.bitCount(set);
                }
            }
        }
        return found;
    }

    // ---- what is put down

    public int narrow(int power, int kinds, int amount) {
        if (!isPower(power) || kinds < 0 || kinds >= 1 << KIND_COUNT || !isAmount(amount) || log.isFull()) {
            return NONE;
        }
        Power one = told.powers[power];
        if (one.endedAt != NONE) {
            return -2;
        }
        one.kindsLeft &= kinds;
        one.mostLeft = Math.min(one.mostLeft, amount);
        return log.putNarrowing(power, kinds, amount);
    }

    public int finish(int power) {
        if (!isPower(power) || log.isFull()) {
            return NONE;
        }
        Power one = told.powers[power];
        if (one.endedAt != NONE) {
            return -2;
        }
        if (log.diedAt[one.giver] != NONE) {
            return -3;
        }
        one.endedAt = log.putDown();
        return one.endedAt;
    }

    public int enter(int power, boolean end) {
        if (!isPower(power) || log.isFull()) {
            return NONE;
        }
        return end ? enterEnd(told.powers[power]) : enterStart(told.powers[power]);
    }

    private int enterStart(Power one) {
        if (one.enteredAt != NONE) {
            return -2;
        }
        if (one.endedAt != NONE) {
            return -3;
        }
        one.enteredAt = log.putDown();
        return one.enteredAt;
    }

    private int enterEnd(Power one) {
        if (one.endEnteredAt != NONE) {
            return -2;
        }
        if (one.endedAt == NONE || one.enteredAt == NONE) {
            return -3;
        }
        one.endEnteredAt = log.putDown();
        return one.endEnteredAt;
    }

    public int notice(int party, int power) {
        if (!isParty(party) || !isPower(power) || log.isFull()) {
            return NONE;
        }
        Power one = told.powers[power];
        if (has(one.noticed, party)) {
            return -2;
        }
        if (one.endedAt == NONE) {
            return -3;
        }
        one.noticed |= 1 << party;
        return log.putDown();
    }

    public int die(int party) {
        if (!isParty(party) || log.isFull()) {
            return NONE;
        }
        if (log.diedAt[party] != NONE) {
            return -2;
        }
        log.diedAt[party] = log.putDown();
        return log.diedAt[party];
    }

    public int does(int persons, int party, int third, int kind, int amount) {
        if (!mayActFor(persons, party) || !isKind(kind) || !isAmount(amount)) {
            return NONE;
        }
        if (!isParty(third) || third == party || has(persons, third) || log.isFull() || actCount >= MOST_ACTS) {
            return NONE;
        }
        int concerned = persons | 1 << party | 1 << third;
        if ((concerned & log.deadBy(log.moment)) != 0) {
            return -2;
        }
        Act one = acts[actCount];
        one.persons = persons;
        one.party = party;
        one.third = third;
        one.kind = kind;
        one.amount = amount;
        one.moment = log.putDown();
        one.day = log.day;
        one.approvedAt = NONE;
        one.givenUpAt = NONE;
        judgeNow(one);
        actCount++;
        return actCount - 1;
    }

    public int approve(int act) {
        if (!isAct(act) || log.isFull()) {
            return NONE;
        }
        Act one = acts[act];
        if (one.approvedAt != NONE) {
            return -2;
        }
        if (one.givenUpAt != NONE) {
            return -3;
        }
        if (log.diedAt[one.party] != NONE) {
            return -4;
        }
        one.approvedAt = log.putDown();
        return one.approvedAt;
    }

    public int giveUp(int act) {
        if (!isAct(act) || log.isFull()) {
            return NONE;
        }
        Act one = acts[act];
        if (one.givenUpAt != NONE) {
            return -2;
        }
        if (one.howKnownAt(log.moment) != 0) {
            return -3;
        }
        one.givenUpAt = log.putDown();
        return one.givenUpAt;
    }

    public int days(int n) {
        if (n < 1 || n > MOST_DAYS_AT_ONCE || log.day + n > LAST_DAY) {
            return NONE;
        }
        log.day += n;
        return log.day;
    }

    // ---- are there such ones

    private boolean isParty(int party) {
        return party >= 0 && party < told.partyCount;
    }

    private boolean isPower(int power) {
        return power >= 0 && power < told.powerCount;
    }

    private boolean isAct(int act) {
        return act >= 0 && act < actCount;
    }

    private boolean isMoment(int moment) {
        return moment >= 0 && moment <= log.moment;
    }

    private static boolean isKind(int kind) {
        return kind >= 0 && kind < KIND_COUNT;
    }

    private static boolean isAmount(int amount) {
        return amount >= 0 && amount <= MOST_AMOUNT;
    }

    private boolean mayActFor(int persons, int party) {
        return isParty(party) && persons > 0 && persons < 1 << told.partyCount
            && (persons & told.firms) == 0 && !has(persons, party);
    }

    /** All persons who could act for a PARTY now; the dead never help. */
    private int actorsFor(int party) {
        int all = (1 << told.partyCount) - 1;
        return all & ~told.firms & ~(1 << party) & ~log.deadBy(log.moment);
    }

    private static boolean has(int bits, int i) {
        return (bits >> i & 1) != 0;
    }

    // ---- LIVE and SCOPE

    /** Why a POWER is not LIVE, but for the one under which it is; 0 if nothing of its own speaks against it. */
    private static int reason(Power one, boolean ended, int day, int dead) {
        if (ended) {
            return OVER_BY_END;
        }
        if (one.till != NONE && day > one.till) {
            return OVER_BY_DAY;
        }
        if (has(dead, one.giver)) {
            return OVER_BY_GIVER;
        }
        return Integer.bitCount(one.holders & ~dead) < one.together ? OVER_BY_HOLDERS : 0;
    }

    private int reasonAt(Power one, int moment, int day) {
        boolean ended = one.endedAt != NONE && one.endedAt <= moment;
        return reason(one, ended, day, log.deadBy(moment));
    }

    private boolean liveAt(int power, int moment, int day) {
        for (int i = 0; i <= power; i++) {
            if (has(told.powers[power].upward, i) && reasonAt(told.powers[i], moment, day) != 0) {
                return false;
            }
        }
        return true;
    }

    private boolean wasLive(int power, int moment) {
        return liveAt(power, moment, log.dayAt[moment]);
    }

    private int kindsAt(int power, int moment) {
        int upward = told.powers[power].upward;
        int kinds = (1 << KIND_COUNT) - 1;
        for (int i = 0; i <= power; i++) {
            kinds &= has(upward, i) ? told.powers[i].kinds : kinds;
        }
        for (int m = 1; m <= moment; m++) {
            kinds &= log.narrowsOneOf(upward, m) ? log.kindsTo[m] : kinds;
        }
        return kinds;
    }

    private int mostAt(int power, int moment) {
        int upward = told.powers[power].upward;
        int most = MOST_AMOUNT;
        for (int i = 0; i <= power; i++) {
            most = has(upward, i) ? Math.min(most, told.powers[i].most) : most;
        }
        for (int m = 1; m <= moment; m++) {
            most = log.narrowsOneOf(upward, m) ? Math.min(most, log.mostTo[m]) : most;
        }
        return most;
    }

    // ---- CAN and BINDS

    /**
     * POWERS (bits) that are LIVE now and whose SCOPE permits it. With a third (not NONE), ends that the third
     * could not know of are passed over.
     */
    private int openPowers(int kind, int amount, int third) {
        int dead = log.deadBy(log.moment);
        int open = 0;
        // a POWER stands behind the one under which it is, so that one is judged already
        for (int i = 0; i < told.powerCount; i++) {
            Power one = told.powers[i];
            boolean ended = one.endedAt != NONE && !(third != NONE && one.seemsNotEnded(third));
            boolean upperOpen = one.under == NONE || has(open, one.under);
            if (upperOpen && one.permits(kind, amount) && reason(one, ended, log.day, dead) == 0) {
                open |= 1 << i;
            }
        }
        return open;
    }

    private void weighNow(int open, int persons, int party) {
        judge.weigh(told, open, log.deadBy(log.moment), persons, party);
    }

    /** What is put down later changes nothing of this but by an approval, so an ACT is judged once, at its MOMENT. */
    private void judgeNow(Act one) {
        one.openPowers = openPowers(one.kind, one.amount, NONE);
        weighNow(one.openPowers, one.persons, one.party);
        one.how = BY_POWER;
        if (judge.first == NONE) {
            weighNow(openPowers(one.kind, one.amount, one.third), one.persons, one.party);
            one.how = judge.first == NONE ? 0 : BY_APPEARANCE;
        }
        one.usedPowers = judge.used;
    }

    /** Bytes that wait to be read. */
    private static final class Tape {
        static final int ROOM = 840;
        static final int TEXT_ROOM = 800;

        final byte[] bytes = new byte[ROOM];
        int length;

        boolean takesTwenty() {
            return length <= ROOM - 20;
        }

        void append(int four) {
            for (int shift = 24; shift >= 0 && length < ROOM; shift -= 8) {
                bytes[length] = (byte) (four >> shift);
                length++;
            }
        }
    }

    /** What a TEXT tells. */
    private static final class Told {
        final Power[] powers = new Power[MOST_POWERS];
        int partyCount;
        int powerCount;
        int firms;

        Told() {
            for (int i = 0; i < MOST_POWERS; i++) {
                powers[i] = new Power();
            }
        }

        void clear() {
            partyCount = 0;
            powerCount = 0;
            firms = 0;
        }

        int withAllUnder(int power) {
            int all = 0;
            for (int i = 0; i < powerCount; i++) {
                all |= has(powers[i].upward, power) ? 1 << i : 0;
            }
            return all;
        }
    }

    /** A POWER as told, and what was put down of it. */
    private static final class Power {
        int giver;
        int holders;
        int together;
        int kinds;
        int most;
        int till;
        boolean sub;
        int under;
        /** Itself and all those under which it is (bits). */
        int upward;

        int kindsLeft;
        int mostLeft;
        int endedAt;
        int enteredAt;
        int endEnteredAt;
        int noticed;

        void clear() {
            holders = 0;
            kinds = 0;
            till = NONE;
            sub = false;
            under = NONE;
            endedAt = NONE;
            enteredAt = NONE;
            endEnteredAt = NONE;
            noticed = 0;
        }

        boolean permits(int kind, int amount) {
            return has(kindsLeft, kind) && amount <= mostLeft;
        }

        boolean seemsNotEnded(int third) {
            return enteredAt != NONE && endEnteredAt == NONE && !has(noticed, third);
        }
    }

    /** An ACT, and how it was judged at its MOMENT. */
    private static final class Act {
        int persons;
        int party;
        int third;
        int kind;
        int amount;
        int moment;
        int day;
        int approvedAt;
        int givenUpAt;

        int how;
        int usedPowers;
        int openPowers;

        int howKnownAt(int later) {
            if (how != 0) {
                return how;
            }
            return approvedAt != NONE && approvedAt <= later ? BY_APPROVAL : 0;
        }
    }

    /** The MOMENTS, with their DAYS, and what must be known of earlier ones. */
    private static final class Log {
        final int[] dayAt = new int[MOST_MOMENTS + 1];
        final int[] narrowed = new int[MOST_MOMENTS + 1];
        final int[] kindsTo = new int[MOST_MOMENTS + 1];
        final int[] mostTo = new int[MOST_MOMENTS + 1];
        final int[] diedAt = new int[MOST_PARTIES];
        int moment;
        int day;

        Log() {
            Arrays.fill(diedAt, NONE);
        }

        void startAnew() {
            moment = 0;
            day = 0;
            Arrays.fill(diedAt, NONE);
        }

        boolean isFull() {
            return moment >= MOST_MOMENTS;
        }

        /** The next MOMENT; the callers see to it that there is one. */
        int putDown() {
            if (!isFull()) {
                moment++;
                dayAt[moment] = day;
                narrowed[moment] = NONE;
            }
            return moment;
        }

        int putNarrowing(int power, int kinds, int most) {
            int at = putDown();
            narrowed[at] = power;
            kindsTo[at] = kinds;
            mostTo[at] = most;
            return at;
        }

        boolean narrowsOneOf(int powers, int at) {
            return narrowed[at] != NONE && has(powers, narrowed[at]);
        }

        int deadBy(int then) {
            int dead = 0;
            for (int i = 0; i < MOST_PARTIES; i++) {
                dead |= diedAt[i] != NONE && diedAt[i] <= then ? 1 << i : 0;
            }
            return dead;
        }
    }

    /** Finds by which of the open POWERS some persons CAN. */
    private static final class Judge {
        /** For each firm the POWERS USED for it, with so many firms within it as were weighed; 0: they can't. */
        private final int[] within = new int[MOST_PARTIES];
        private final int[] next = new int[MOST_PARTIES];
        private Told told;
        private int open;
        private int living;
        private int persons;

        /** The POWER of least number by which they CAN; NONE: they can't. */
        int first = NONE;
        /** All POWERS that are USED; 0: they can't. */
        int used;

        void weigh(Told all, int openPowers, int dead, int actors, int party) {
            told = all;
            open = openPowers;
            living = ~dead;
            persons = actors;
            weighFirms();
            first = NONE;
            used = 0;
            for (int i = 0; i < told.powerCount && first == NONE; i++) {
                int through = told.powers[i].giver == party ? usedBy(i) : 0;
                if (through != 0) {
                    first = i;
                    used = through;
                }
            }
        }

        /** From the innermost firms outward; where one depth changes nothing, those around it don't either. */
        private void weighFirms() {
            Arrays.fill(within, 0);
            boolean changed = true;
            for (int depth = 0; depth < FIRMS_WITHIN && changed; depth++) {
                Arrays.fill(next, 0);
                for (int i = 0; i < told.powerCount; i++) {
                    int giver = told.powers[i].giver;
                    if (has(told.firms & living, giver) && next[giver] == 0) {
                        next[giver] = usedBy(i);
                    }
                }
                changed = takeNext();
            }
        }

        private boolean takeNext() {
            boolean changed = false;
            for (int i = 0; i < MOST_PARTIES; i++) {
                changed |= within[i] != next[i];
                within[i] = next[i];
            }
            return changed;
        }

        /** POWERS USED, if enough HOLDERS of this one ACT; 0 else. */
        private int usedBy(int power) {
            if (!has(open, power)) {
                return 0;
            }
            Power one = told.powers[power];
            int acting = Integer.bitCount(one.holders & living & persons);
            int through = 1 << power;
            for (int i = 0; i < told.partyCount; i++) {
                if (has(one.holders & living & told.firms, i) && within[i] != 0) {
                    acting++;
                    through |= within[i];
                }
            }
            return acting >= one.together ? through : 0;
        }
    }

    /** What can stand in a TEXT; the words are written as they stand there. */
    private enum Token {
        END(""), OTHER(""), NUMBER(""), SIGN(";"),
        PERSON("person"), FIRM("firm"), FROM("from"), UNDER("under"), TO("to"), BY("by"),
        KINDS("kinds"), MOST("most"), TILL("till"), SUB("sub");

        private static final Token[] ALL = values();

        final String word;

        Token(String word) {
            this.word = word;
        }
    }

    /** The TOKENS of a tape, up to its end or to the first that can't come anywhere (OTHER). */
    private static final class Lexer {
        private static final int LINE_FEED = 10;
        private static final int MOST_DIGITS = 3;

        private final Tape tape;
        private int place;

        /** One row for each TOKEN, and one for the end. */
        final Token[] tokens = new Token[Tape.TEXT_ROOM + 1];
        final int[] starts = new int[Tape.TEXT_ROOM + 1];
        final int[] numbers = new int[Tape.TEXT_ROOM + 1];
        int last;

        Lexer(Tape tape) {
            this.tape = tape;
            tokens[0] = Token.END;
        }

        void scan() {
            place = 0;
            last = 0;
            findToken();
            while (last < Tape.TEXT_ROOM && tokens[last] != Token.END && tokens[last] != Token.OTHER) {
                last++;
                findToken();
            }
        }

        /** Behind the TEXT's room nothing begins, and a tape that goes on there is no TEXT. */
        private void findToken() {
            int limit = Math.min(tape.length, Tape.TEXT_ROOM);
            while (place < limit && isBlank(tape.bytes[place])) {
                place++;
            }
            int start = Math.min(place, limit);
            starts[last] = start;
            if (start == limit) {
                tokens[last] = tape.length > limit ? Token.OTHER : Token.END;
            } else if (tape.bytes[start] == ';') {
                place++;
                tokens[last] = Token.SIGN;
            } else {
                while (place < tape.length && (isLetter(tape.bytes[place]) || isDigit(tape.bytes[place]))) {
                    place++;
                }
                tokens[last] = sortOut(start);
            }
        }

        /** What the bytes from start up to place are. */
        private Token sortOut(int start) {
            int digits = 0;
            int number = 0;
            for (int i = start; i < place && digits <= MOST_DIGITS; i++) {
                if (isDigit(tape.bytes[i])) {
                    digits++;
                    number = number * 10 + tape.bytes[i] - '0';
                }
            }
            if (digits == 0) {
                return wordFrom(start);
            }
            numbers[last] = number;
            return digits == place - start && digits <= MOST_DIGITS ? Token.NUMBER : Token.OTHER;
        }

        private Token wordFrom(int start) {
            for (int i = 0; i < Token.ALL.length; i++) {
                // no bytes at all are no word
                if (start < place && isWord(Token.ALL[i].word, start)) {
                    return Token.ALL[i];
                }
            }
            return Token.OTHER;
        }

        private boolean isWord(String word, int start) {
            if (word.length() != place - start) {
                return false;
            }
            for (int i = 0; i < word.length(); i++) {
                if (word.charAt(i) != tape.bytes[start + i]) {
                    return false;
                }
            }
            return true;
        }

        private static boolean isBlank(int b) {
            return b == ' ' || b == LINE_FEED;
        }

        private static boolean isLetter(int b) {
            return b >= 'a' && b <= 'z';
        }

        private static boolean isDigit(int b) {
            return b >= '0' && b <= '9';
        }
    }

    /** Reads the tape as a TEXT, up to the first FAULT. */
    private static final class TextReader {
        private static final int CANT_COME = 1;
        private static final int WRONG_NUMBER = 2;
        private static final int WRONG_ONE = 3;
        private static final int TOO_MANY = 4;

        private final Lexer lexer;
        private Told told;
        private int at;
        private Token token = Token.END;
        private int number;

        int faultKind;
        int faultPlace;

        TextReader(Tape tape) {
            lexer = new Lexer(tape);
        }

        /** Whether it is a TEXT; if not, the FAULT is told, and what was filled in is of no use. */
        boolean readText(Told into) {
            told = into;
            told.clear();
            faultKind = 0;
            lexer.scan();
            goTo(0);
            // each LINE that is read makes one more PARTY or POWER, and their limits refuse the next
            for (int i = 0; i <= MOST_PARTIES + MOST_POWERS && token != Token.END; i++) {
                if (!readLine()) {
                    return false;
                }
            }
            return true;
        }

        private boolean readLine() {
            if (token == Token.PERSON || token == Token.FIRM) {
                return readParty() && take(Token.SIGN);
            }
            if (token == Token.FROM || token == Token.UNDER) {
                return readPower() && take(Token.SIGN);
            }
            return refuse(CANT_COME);
        }

        private boolean readParty() {
            if (told.partyCount >= MOST_PARTIES) {
                return refuse(TOO_MANY);
            }
            told.firms |= token == Token.FIRM ? 1 << told.partyCount : 0;
            told.partyCount++;
            return take(token);
        }

        private boolean readPower() {
            if (told.powerCount >= MOST_POWERS) {
                return refuse(TOO_MANY);
            }
            Power one = told.powers[told.powerCount];
            one.clear();
            one.upward = 1 << told.powerCount;
            boolean sourceRead = token == Token.UNDER ? readUpper(one) : readGiver(one);
            if (!sourceRead || !readHolders(one) || !readTogether(one) || !readKinds(one) || !readRest(one)) {
                return false;
            }
            one.kindsLeft = one.kinds;
            one.mostLeft = one.most;
            told.powerCount++;
            return true;
        }

        private boolean readGiver(Power one) {
            if (!take(Token.FROM)) {
                return false;
            }
            if (token == Token.NUMBER && number >= told.partyCount) {
                return refuse(WRONG_ONE);
            }
            one.giver = number;
            return take(Token.NUMBER);
        }

        private boolean readUpper(Power one) {
            if (!take(Token.UNDER)) {
                return false;
            }
            if (token != Token.NUMBER) {
                return refuse(CANT_COME);
            }
            if (number >= told.powerCount || !told.powers[number].sub) {
                return refuse(WRONG_ONE);
            }
            Power upper = told.powers[number];
            one.under = number;
            one.giver = upper.giver;
            one.upward |= upper.upward;
            return take(Token.NUMBER);
        }

        private boolean readHolders(Power one) {
            boolean good = take(Token.TO);
            for (int i = 0; i <= MOST_PARTIES && good && (i == 0 || token == Token.NUMBER); i++) {
                if (token == Token.NUMBER) {
                    if (number >= told.partyCount || number == one.giver || has(one.holders, number)) {
                        return refuse(WRONG_ONE);
                    }
                    one.holders |= 1 << number;
                }
                good = take(Token.NUMBER);
            }
            return good;
        }

        private boolean readTogether(Power one) {
            if (!take(Token.BY)) {
                return false;
            }
            if (token == Token.NUMBER && (number < 1 || number > Integer.bitCount(one.holders))) {
                return refuse(WRONG_NUMBER);
            }
            one.together = number;
            return take(Token.NUMBER);
        }

        private boolean readKinds(Power one) {
            boolean good = take(Token.KINDS);
            for (int i = 0; i <= KIND_COUNT && good && (i == 0 || token == Token.NUMBER); i++) {
                if (token == Token.NUMBER) {
                    if (number >= KIND_COUNT) {
                        return refuse(WRONG_NUMBER);
                    }
                    if (has(one.kinds, number)) {
                        return refuse(WRONG_ONE);
                    }
                    one.kinds |= 1 << number;
                }
                good = take(Token.NUMBER);
            }
            return good;
        }

        /** Any NUMBER has at most three digits, so that an amount and a DAY are always as told. */
        private boolean readRest(Power one) {
            if (!take(Token.MOST)) {
                return false;
            }
            one.most = number;
            boolean good = take(Token.NUMBER);
            if (good && token == Token.TILL) {
                good = take(Token.TILL);
                one.till = number;
                good = good && take(Token.NUMBER);
            }
            if (good && token == Token.SUB) {
                one.sub = true;
                good = take(Token.SUB);
            }
            return good;
        }

        private boolean take(Token due) {
            if (token != due) {
                return refuse(CANT_COME);
            }
            goTo(at + 1);
            return true;
        }

        private boolean refuse(int kind) {
            faultKind = kind;
            faultPlace = lexer.starts[at];
            return false;
        }

        /** The lexer's last TOKEN is never taken, so that nothing is asked for behind it. */
        private void goTo(int next) {
            at = Math.min(next, lexer.last);
            token = lexer.tokens[at];
            number = lexer.numbers[at];
        }
    }

    /** Writes a POWER as a TEXT's LINE. */
    private static final class LineWriter {
        /** The longest LINE, of a POWER with seven HOLDERS and all that can be told, has 71 bytes. */
        private static final int ROOM = 80;

        final byte[] bytes = new byte[ROOM];
        int length;

        void writeLine(Power one) {
            length = 0;
            write(one.under == NONE ? "from" : "under");
            writeNumber(one.under == NONE ? one.giver : one.under);
            write(" to");
            writeBits(one.holders);
            write(" by");
            writeNumber(one.together);
            write(" kinds");
            writeBits(one.kinds);
            write(" most");
            writeNumber(one.most);
            if (one.till != NONE) {
                write(" till");
                writeNumber(one.till);
            }
            write(one.sub ? " sub;" : ";");
        }

        private void write(String letters) {
            for (int i = 0; i < letters.length(); i++) {
                writeByte(letters.charAt(i));
            }
        }

        private void writeBits(int bits) {
            for (int i = 0; i < MOST_PARTIES; i++) {
                if (has(bits, i)) {
                    writeNumber(i);
                }
            }
        }

        /** A blank, and a number up to 999. */
        private void writeNumber(int n) {
            writeByte(' ');
            if (n >= 100) {
                writeByte('0' + n / 100);
            }
            if (n >= 10) {
                writeByte('0' + n / 10 % 10);
            }
            writeByte('0' + n % 10);
        }

        private void writeByte(int b) {
            if (length < ROOM) {
                bytes[length] = (byte) b;
                length++;
            }
        }
    }
}
