import java.util.ArrayList;
import java.util.List;
import java.util.NoSuchElementException;
import java.util.TreeSet;

/**
 * The document told again in its slowest form: all that was put down stands in one list, and every answer is found
 * from that list anew, with no regard to speed.
 */
final class Model {
    private static final class Given {
        int giver;
        List<Integer> holders = new ArrayList<>();
        int q;
        List<Integer> kinds = new ArrayList<>();
        int most;
        Integer till;
        boolean sub;
        Given upper;
        int upperNumber = -1;
    }

    private static final class Thing {
        final String what;
        final int day;
        final int[] of;

        Thing(String what, int day, int... of) {
            this.what = what;
            this.day = day;
            this.of = of;
        }
    }

    private static final class Fault extends RuntimeException {
        private static final long serialVersionUID = 1L;
        final int place;
        final int kind;

        Fault(int place, int kind) {
            this.place = place;
            this.kind = kind;
        }
    }

    private StringBuilder tape = new StringBuilder();
    private List<Boolean> isFirm = new ArrayList<>();
    private List<Given> given = new ArrayList<>();
    /** The thing of MOMENT m stands at m - 1. */
    private List<Thing> things = new ArrayList<>();
    private int day = 0;
    private int faultKind = 0;

    int feed(int... numbers) {
        if (tape.length() + 20 > 840) {
            return -1;
        }
        for (int n : numbers) {
            for (int i = 3; i >= 0; i--) {
                tape.append((char) (n >>> 8 * i & 255));
            }
        }
        return tape.length();
    }

    boolean end(int n) {
        if (n < 0 || n > tape.length()) {
            return false;
        }
        tape.delete(n, tape.length());
        return true;
    }

    // ---- the TEXT: split by a pattern, then one LINE behind another

    private List<String> words;
    private List<Integer> places;
    private int next;
    private int endPlace;
    private boolean tooLong;

    private void split(String text) {
        words = new ArrayList<>();
        places = new ArrayList<>();
        next = 0;
        tooLong = text.length() > 800;
        endPlace = tooLong ? 800 : text.length();
        java.util.regex.Matcher m = java.util.regex.Pattern.compile("[a-z0-9]+|[^ \n]", java.util.regex.Pattern.DOTALL)
            .matcher(text);
        while (m.find() && m.start() < 800) {
            words.add(m.group());
            places.add(m.start());
        }
    }

    private String look() {
        return next < words.size() ? words.get(next) : null;
    }

    private int place() {
        return next < words.size() ? places.get(next) : endPlace;
    }

    private void must(String word) {
        if (!word.equals(look())) {
            throw new Fault(place(), 1);
        }
        next++;
    }

    private boolean atNumber() {
        return look() != null && look().matches("[0-9]{1,3}");
    }

    private int number(int low, int high, int kind) {
        if (!atNumber()) {
            throw new Fault(place(), 1);
        }
        int n = Integer.parseInt(look());
        if (n < low || n > high) {
            throw new Fault(place(), kind);
        }
        next++;
        return n;
    }

    private Given readPower(List<Boolean> firms, List<Given> powers) {
        Given g = new Given();
        if (look().equals("from")) {
            next++;
            g.giver = number(0, firms.size() - 1, 3);
        } else {
            next++;
            int at = place();
            g.upperNumber = number(0, powers.size() - 1, 3);
            g.upper = powers.get(g.upperNumber);
            g.giver = g.upper.giver;
            if (!g.upper.sub) {
                throw new Fault(at, 3);
            }
        }
        must("to");
        do {
            int at = place();
            int p = number(0, firms.size() - 1, 3);
            if (p == g.giver || g.holders.contains(p)) {
                throw new Fault(at, 3);
            }
            g.holders.add(p);
        } while (atNumber());
        must("by");
        g.q = number(1, g.holders.size(), 2);
        must("kinds");
        do {
            int at = place();
            int k = number(0, 5, 2);
            if (g.kinds.contains(k)) {
                throw new Fault(at, 3);
            }
            g.kinds.add(k);
        } while (atNumber());
        must("most");
        g.most = number(0, 999, 2);
        if ("till".equals(look())) {
            next++;
            g.till = number(0, 999, 2);
        }
        if ("sub".equals(look())) {
            next++;
            g.sub = true;
        }
        return g;
    }

    int text() {
        String text = tape.toString();
        tape = new StringBuilder();
        List<Boolean> firms = new ArrayList<>();
        List<Given> powers = new ArrayList<>();
        faultKind = 0;
        try {
            split(text);
            while (look() != null) {
                if (look().equals("person") || look().equals("firm")) {
                    if (firms.size() == 8) {
                        throw new Fault(place(), 4);
                    }
                    firms.add(look().equals("firm"));
                    next++;
                } else if (look().equals("from") || look().equals("under")) {
                    if (powers.size() == 20) {
                        throw new Fault(place(), 4);
                    }
                    powers.add(readPower(firms, powers));
                } else {
                    throw new Fault(place(), 1);
                }
                must(";");
            }
            if (tooLong) {
                throw new Fault(800, 1);
            }
        } catch (Fault f) {
            faultKind = f.kind;
            return -1 - f.place;
        }
        isFirm = firms;
        given = powers;
        things = new ArrayList<>();
        day = 0;
        return firms.size() + powers.size();
    }

    int fault() {
        return faultKind;
    }

    // ---- what was put down by a MOMENT

    /** The MOMENT of the first such thing, NONE if there is none by then. */
    private int when(String what, int by, int... of) {
        for (int m = 1; m <= by; m++) {
            Thing t = things.get(m - 1);
            boolean alike = t.what.equals(what);
            for (int i = 0; alike && i < of.length; i++) {
                alike = t.of[i] == of[i];
            }
            if (alike) {
                return m;
            }
        }
        return -1;
    }

    private boolean was(String what, int by, int... of) {
        return when(what, by, of) != -1;
    }

    private int latest() {
        return things.size();
    }

    private int put(String what, int... of) {
        things.add(new Thing(what, day, of));
        return things.size();
    }

    private int dayOf(int moment) {
        return moment == 0 ? 0 : things.get(moment - 1).day;
    }

    private List<Integer> actMoments() {
        List<Integer> at = new ArrayList<>();
        for (int m = 1; m <= latest(); m++) {
            if (things.get(m - 1).what.equals("act")) {
                at.add(m);
            }
        }
        return at;
    }

    private static int bits(Iterable<Integer> of) {
        int all = 0;
        for (int i : of) {
            all |= 1 << i;
        }
        return all;
    }

    // ---- LIVE, SCOPE, CAN

    /** third: NONE, or who should have known of ends. */
    private int why(int power, int moment, int onDay, int third) {
        Given g = given.get(power);
        boolean ended = was("end", moment, power);
        if (third != -1 && ended && was("enter", moment, power)) {
            ended = was("enterEnd", moment, power) || was("notice", moment, third, power);
        }
        if (ended) {
            return 1;
        }
        if (g.till != null && onDay > g.till) {
            return 2;
        }
        if (was("die", moment, g.giver)) {
            return 3;
        }
        int alive = 0;
        for (int h : g.holders) {
            alive += was("die", moment, h) ? 0 : 1;
        }
        if (alive < g.q) {
            return 4;
        }
        return g.upper != null && why(g.upperNumber, moment, onDay, third) != 0 ? 5 : 0;
    }

    private boolean permits(int power, int moment, int kind, int amount) {
        Given g = given.get(power);
        if (!g.kinds.contains(kind) || amount > g.most) {
            return false;
        }
        for (int m = 1; m <= moment; m++) {
            Thing t = things.get(m - 1);
            if (t.what.equals("narrow") && t.of[0] == power && ((t.of[1] >> kind & 1) == 0 || amount > t.of[2])) {
                return false;
            }
        }
        return g.upper == null || permits(g.upperNumber, moment, kind, amount);
    }

    /** What is asked, with all that stays the same within it. */
    private static final class Question {
        int persons;
        int kind;
        int amount;
        int moment;
        int onDay;
        int third = -1;
        int without = -1;
    }

    private boolean isWithout(int power, int without) {
        return without != -1 && (power == without
            || given.get(power).upper != null && isWithout(given.get(power).upperNumber, without));
    }

    /** The POWERS USED, the one by which they CAN as the first; null: they can't. */
    private List<Integer> means(Question q, int party, int firmsLeft) {
        for (int p = 0; p < given.size(); p++) {
            Given g = given.get(p);
            if (g.giver != party || isWithout(p, q.without) || why(p, q.moment, q.onDay, q.third) != 0
                || !permits(p, q.moment, q.kind, q.amount)) {
                continue;
            }
            List<Integer> used = new ArrayList<>();
            used.add(p);
            int acting = 0;
            for (int h : g.holders) {
                if (was("die", q.moment, h)) {
                    continue;
                }
                if ((q.persons >> h & 1) != 0) {
                    acting++;
                } else if (isFirm.get(h) && firmsLeft > 0) {
                    List<Integer> within = means(q, h, firmsLeft - 1);
                    if (within != null) {
                        acting++;
                        used.addAll(within);
                    }
                }
            }
            if (acting >= g.q) {
                return used;
            }
        }
        return null;
    }

    private List<Integer> meansNow(int persons, int party, int kind, int amount) {
        Question q = new Question();
        q.persons = persons;
        q.kind = kind;
        q.amount = amount;
        q.moment = latest();
        q.onDay = day;
        return means(q, party, 3);
    }

    private List<Integer> meansOf(int act, boolean appearing, int without) {
        int m = actMoments().get(act);
        Thing t = things.get(m - 1);
        Question q = new Question();
        q.persons = t.of[0];
        q.kind = t.of[3];
        q.amount = t.of[4];
        q.moment = m;
        q.onDay = t.day;
        q.third = appearing ? t.of[2] : -1;
        q.without = without;
        return means(q, t.of[1], 3);
    }

    // ---- are there such ones

    private boolean noParty(int p) {
        return p < 0 || p >= isFirm.size();
    }

    private boolean noPower(int p) {
        return p < 0 || p >= given.size();
    }

    private boolean noAct(int a) {
        return a < 0 || a >= actMoments().size();
    }

    private boolean noMoment(int m) {
        return m < 0 || m > latest();
    }

    private static boolean noKindOrAmount(int kind, int amount) {
        return kind < 0 || kind > 5 || amount < 0 || amount > 999;
    }

    private boolean wrongPersons(int persons, int party) {
        if (noParty(party) || persons == 0) {
            return true;
        }
        for (int i = 0; i < 32; i++) {
            if ((persons >>> i & 1) != 0 && (noParty(i) || isFirm.get(i) || i == party)) {
                return true;
            }
        }
        return false;
    }

    private boolean full() {
        return latest() == 300;
    }

    // ---- the calls

    int now(int what) {
        switch (what) {
            case 0: return isFirm.size();
            case 1: return given.size();
            case 2: return latest();
            case 3: return day;
            case 4: return actMoments().size();
            case 5: case 6:
                TreeSet<Integer> those = new TreeSet<>();
                for (int i = 0; i < isFirm.size(); i++) {
                    if (what == 5 ? isFirm.get(i) : was("die", latest(), i)) {
                        those.add(i);
                    }
                }
                return bits(those);
            case 7: return tape.length();
            default: return -1;
        }
    }

    int power(int power, int what) {
        if (noPower(power) || what < 0 || what > 7) {
            throw new NoSuchElementException();
        }
        Given g = given.get(power);
        int[] all = {g.giver, bits(g.holders), g.q, bits(g.kinds), g.most, g.till == null ? -1 : g.till,
            g.sub ? 1 : 0, g.upperNumber};
        return all[what];
    }

    int scope(int power, int moment, int what) {
        if (noPower(power) || noMoment(moment) || what < 0 || what > 2) {
            return -1;
        }
        if (what == 0) {
            return why(power, moment, dayOf(moment), -1) == 0 ? 1 : 0;
        }
        int kinds = 63;
        int most = 999;
        for (int p = power; p != -1; p = given.get(p).upperNumber) {
            kinds &= bits(given.get(p).kinds);
            most = Math.min(most, given.get(p).most);
            for (int m = 1; m <= moment; m++) {
                Thing t = things.get(m - 1);
                if (t.what.equals("narrow") && t.of[0] == p) {
                    kinds &= t.of[1];
                    most = Math.min(most, t.of[2]);
                }
            }
        }
        return what == 1 ? kinds : most;
    }

    int over(int power) {
        return noPower(power) ? -1 : why(power, latest(), day, -1);
    }

    int entry(int power, int what) {
        if (noPower(power) || what < 0 || what > 2) {
            return -1;
        }
        return when(new String[] {"end", "enter", "enterEnd"}[what], latest(), power);
    }

    int act(int act, int what) {
        if (noAct(act) || what < 0 || what > 8) {
            throw new NoSuchElementException();
        }
        int m = actMoments().get(act);
        Thing t = things.get(m - 1);
        if (what < 5) {
            return t.of[what];
        }
        return what == 5 ? m : what == 6 ? t.day : when(what == 7 ? "approve" : "giveUp", latest(), act);
    }

    int binds(int act, int moment) {
        if (noAct(act) || noMoment(moment) || moment < actMoments().get(act)) {
            return -1;
        }
        if (meansOf(act, false, -1) != null) {
            return 1;
        }
        if (meansOf(act, true, -1) != null) {
            return 2;
        }
        return was("approve", moment, act) ? 3 : 0;
    }

    int used(int act) {
        if (noAct(act)) {
            return -1;
        }
        int how = binds(act, latest());
        return how == 1 || how == 2 ? bits(meansOf(act, how == 2, -1)) : 0;
    }

    int can(int persons, int party, int kind, int amount) {
        if (wrongPersons(persons, party) || noKindOrAmount(kind, amount)) {
            return -1;
        }
        List<Integer> by = meansNow(persons, party, kind, amount);
        return by == null ? -2 : by.get(0);
    }

    int upTo(int persons, int party, int kind) {
        if (wrongPersons(persons, party) || noKindOrAmount(kind, 0)) {
            return -1;
        }
        // only what some POWER tells, or was narrowed to, can be the greatest amount
        TreeSet<Integer> amounts = new TreeSet<>();
        for (Given g : given) {
            amounts.add(g.most);
        }
        for (Thing t : things) {
            if (t.what.equals("narrow")) {
                amounts.add(t.of[2]);
            }
        }
        for (int amount : amounts.descendingSet()) {
            if (meansNow(persons, party, kind, amount) != null) {
                return amount;
            }
        }
        return -2;
    }

    int alone(int party, int kind, int amount) {
        if (noParty(party) || noKindOrAmount(kind, amount)) {
            return -1;
        }
        int all = 0;
        for (int i = 0; i < isFirm.size(); i++) {
            all |= can(1 << i, party, kind, amount) >= 0 ? 1 << i : 0;
        }
        return all;
    }

    int fewest(int party, int kind, int amount) {
        if (noParty(party) || noKindOrAmount(kind, amount)) {
            return -1;
        }
        for (int size = 1; size <= 8; size++) {
            for (int set = 1; set < 256; set++) {
                if (Integer.bitCount(set) == size && can(set, party, kind, amount) >= 0) {
                    return set;
                }
            }
        }
        return -2;
    }

    int hang(int power) {
        if (noPower(power)) {
            return -1;
        }
        int all = 0;
        for (int a = 0; a < actMoments().size(); a++) {
            all |= meansOf(a, false, -1) != null && meansOf(a, false, power) == null ? 1 << a : 0;
        }
        return all;
    }

    int bound(int party, int how) {
        if (noParty(party) || how < 0 || how > 3) {
            return -1;
        }
        int sum = 0;
        for (int a = 0; a < actMoments().size(); a++) {
            int b = binds(a, latest());
            sum += act(a, 1) == party && b > 0 && (how == 0 || how == b) ? act(a, 4) : 0;
        }
        return sum;
    }

    int letter(int power, int i) {
        if (noPower(power)) {
            return -1;
        }
        Given g = given.get(power);
        StringBuilder line = new StringBuilder();
        line.append(g.upper == null ? "from " + g.giver : "under " + g.upperNumber).append(" to");
        for (int h : new TreeSet<>(g.holders)) {
            line.append(' ').append(h);
        }
        line.append(" by ").append(g.q).append(" kinds");
        for (int k : new TreeSet<>(g.kinds)) {
            line.append(' ').append(k);
        }
        line.append(" most ").append(g.most).append(g.till == null ? "" : " till " + g.till);
        line.append(g.sub ? " sub" : "").append(';');
        return i < 0 || i >= line.length() ? -1 : line.charAt(i);
    }

    int narrow(int power, int kinds, int amount) {
        if (noPower(power) || (kinds & ~63) != 0 || noKindOrAmount(0, amount) || full()) {
            return -1;
        }
        return was("end", latest(), power) ? -2 : put("narrow", power, kinds, amount);
    }

    int finish(int power) {
        if (noPower(power) || full()) {
            return -1;
        }
        if (was("end", latest(), power)) {
            return -2;
        }
        return was("die", latest(), given.get(power).giver) ? -3 : put("end", power);
    }

    int enter(int power, boolean end) {
        if (noPower(power) || full()) {
            return -1;
        }
        if (was(end ? "enterEnd" : "enter", latest(), power)) {
            return -2;
        }
        boolean ended = was("end", latest(), power);
        boolean refused = end ? !ended || !was("enter", latest(), power) : ended;
        return refused ? -3 : put(end ? "enterEnd" : "enter", power);
    }

    int notice(int party, int power) {
        if (noParty(party) || noPower(power) || full()) {
            return -1;
        }
        if (was("notice", latest(), party, power)) {
            return -2;
        }
        return was("end", latest(), power) ? put("notice", party, power) : -3;
    }

    int die(int party) {
        if (noParty(party) || full()) {
            return -1;
        }
        return was("die", latest(), party) ? -2 : put("die", party);
    }

    int does(int persons, int party, int third, int kind, int amount) {
        if (wrongPersons(persons, party) || noParty(third) || third == party || (persons >> third & 1) != 0
            || noKindOrAmount(kind, amount) || full() || actMoments().size() == 16) {
            return -1;
        }
        for (int i = 0; i < isFirm.size(); i++) {
            if (((persons >> i & 1) != 0 || i == party || i == third) && was("die", latest(), i)) {
                return -2;
            }
        }
        put("act", persons, party, third, kind, amount);
        return actMoments().size() - 1;
    }

    int approve(int act) {
        if (noAct(act) || full()) {
            return -1;
        }
        if (was("approve", latest(), act)) {
            return -2;
        }
        if (was("giveUp", latest(), act)) {
            return -3;
        }
        return was("die", latest(), act(act, 1)) ? -4 : put("approve", act);
    }

    int giveUp(int act) {
        if (noAct(act) || full()) {
            return -1;
        }
        if (was("giveUp", latest(), act)) {
            return -2;
        }
        return binds(act, latest()) > 0 ? -3 : put("giveUp", act);
    }

    int days(int n) {
        if (n < 1 || n > 99 || day + n > 999) {
            return -1;
        }
        day += n;
        return day;
    }
}
