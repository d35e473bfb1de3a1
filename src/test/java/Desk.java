/** A book whose calls are counted, since nothing is promised of an object after its 512th call. */
final class Desk {
    static final int MOST_CALLS = 512;

    private final AuthorityBook book = new AuthorityBook();
    private int calls = 0;

    Desk() {
    }

    /** With a TEXT that must be good. */
    Desk(String text) {
        int lines = tell(text);
        Edge.yes("the text " + text + " is one (" + lines + ")", lines >= 0);
    }

    private AuthorityBook next() {
        calls++;
        if (calls > MOST_CALLS) {
            throw new IllegalStateException("a test asks more than the document promises");
        }
        return book;
    }

    int calls() {
        return calls;
    }

    /** Puts a text on the tape, which must be empty, and reads it. */
    int tell(String text) {
        for (int i = 0; i < text.length(); i += 20) {
            feed(text.substring(i));
        }
        end(text.length());
        return text();
    }

    /** The first twenty bytes of these letters, filled up with bytes 0. */
    int feed(String letters) {
        int[] five = Probe.fives(letters, 0);
        return next().feed(five[0], five[1], five[2], five[3], five[4]);
    }

    boolean end(int n) {
        return next().end(n);
    }

    int text() {
        return next().text();
    }

    int fault() {
        return next().fault();
    }

    int now(int what) {
        return next().now(what);
    }

    int moment() {
        return now(2);
    }

    /** Probe.THROWN where it throws. */
    int power(int power, int what) {
        return Probe.power(next(), power, what);
    }

    int scope(int power, int moment, int what) {
        return next().scope(power, moment, what);
    }

    int live(int power, int moment) {
        return scope(power, moment, 0);
    }

    int over(int power) {
        return next().over(power);
    }

    int entry(int power, int what) {
        return next().entry(power, what);
    }

    /** Probe.THROWN where it throws. */
    int act(int act, int what) {
        return Probe.act(next(), act, what);
    }

    int binds(int act, int moment) {
        return next().binds(act, moment);
    }

    /** As known now. */
    int binds(int act) {
        return binds(act, moment());
    }

    int used(int act) {
        return next().used(act);
    }

    int can(int persons, int party, int kind, int amount) {
        return next().can(persons, party, kind, amount);
    }

    int upTo(int persons, int party, int kind) {
        return next().upTo(persons, party, kind);
    }

    int alone(int party, int kind, int amount) {
        return next().alone(party, kind, amount);
    }

    int fewest(int party, int kind, int amount) {
        return next().fewest(party, kind, amount);
    }

    int hang(int power) {
        return next().hang(power);
    }

    int bound(int party, int how) {
        return next().bound(party, how);
    }

    int letter(int power, int i) {
        return next().letter(power, i);
    }

    /** All its bytes, up to the first NONE. */
    String letters(int power) {
        StringBuilder line = new StringBuilder();
        for (int b = letter(power, 0); b != -1; b = letter(power, line.length())) {
            line.append((char) b);
        }
        return line.toString();
    }

    int narrow(int power, int kinds, int amount) {
        return next().narrow(power, kinds, amount);
    }

    int finish(int power) {
        return next().finish(power);
    }

    int enter(int power, boolean end) {
        return next().enter(power, end);
    }

    int notice(int party, int power) {
        return next().notice(party, power);
    }

    int die(int party) {
        return next().die(party);
    }

    int does(int persons, int party, int third, int kind, int amount) {
        return next().does(persons, party, third, kind, amount);
    }

    int approve(int act) {
        return next().approve(act);
    }

    int giveUp(int act) {
        return next().giveUp(act);
    }

    int days(int n) {
        return next().days(n);
    }

    /** Puts down things that change nothing, up to a MOMENT; POWER 0 must not be ENDED. */
    void passTo(int moment) {
        for (int m = moment(); m < moment; m++) {
            narrow(0, 63, 999);
        }
    }

    /** What stands, told in one text, to be compared with what stands later. */
    String state() {
        StringBuilder all = new StringBuilder();
        for (int what = 0; what <= 7; what++) {
            all.append(now(what)).append(' ');
        }
        int moment = moment();
        int powers = now(1);
        for (int p = 0; p < powers; p++) {
            all.append("| POWER ").append(p).append(": ");
            all.append(power(p, 0)).append(' ').append(power(p, 1)).append(' ').append(over(p)).append(' ');
            for (int what = 0; what <= 2; what++) {
                all.append(scope(p, moment, what)).append(' ').append(entry(p, what)).append(' ');
            }
        }
        int acts = now(4);
        for (int a = 0; a < acts; a++) {
            all.append("| ACT ").append(a).append(": ");
            for (int what = 0; what <= 8; what++) {
                all.append(act(a, what)).append(' ');
            }
            all.append(binds(a, moment)).append(' ').append(used(a)).append(' ');
        }
        return all.toString();
    }
}
