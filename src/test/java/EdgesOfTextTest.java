/** The edges of a TEXT: the first half of "Terms", and promises 1 to 5, sentence by sentence. */
public final class EdgesOfTextTest {
    private static final String FEED = "Promise 2: feed";
    private static final String END = "Promise 3: end";
    private static final String TEXT = "Promise 4: text";
    private static final String FAULT = "Promise 5: fault";
    private static final String TWO = "person;person;";
    private static final String EIGHT = Probe.times("person;", 8);
    private static final String LINE = "from 0 to 1 by 1 kinds 0 most 1;";
    private static final String SUB = "from 0 to 1 by 1 kinds 0 most 1 sub;";
    private static final String REST = " to 1 by 1 kinds 0 most 1;";
    /** A LINE with all that it can have. */
    private static final String[] TOKENS = {"from", "0", "to", "1", "by", "1", "kinds", "0", "most", "1", "till", "1",
        "sub", ";"};

    public static void main(String[] args) {
        blanks();
        words();
        numbers();
        theSign();
        howFarTokensGo();
        eightHundredBytes();
        linesAndSigns();
        eightParties();
        twentyPowers();
        fromOrUnder();
        toHolders();
        byHowMany();
        kindsOfOne();
        mostAndWhatMayCome();
        whoGives();
        underWhich();
        holdersAlike();
        howManyTogether();
        kindsUpToFive();
        amountsUpTo999();
        daysUpTo999();
        handedOn();
        theFirstFault();
        cantCome();
        theEnd();
        behind800();
        wrongNumbers();
        notTold();
        holdersToldAlready();
        withoutSub();
        kindsToldAlready();
        theNinthAndThe21st();
        newObject();
        feedBehind();
        feedHighestFirst();
        feedCounts();
        feedFull();
        endKeeps();
        endRefuses();
        textEmptiesTheTape();
        textCountsLines();
        textWithFault();
        faultOfTheLatest();
        faultWithout();
        // EdgesOfTermsTest tries the rest of this section
        Edge.wholeUpTo(Edge.TERMS, "MOMENTS:");
        Edge.finish("EdgesOfTextTest", "Promise 1: A new object", FEED, END, TEXT, FAULT);
    }

    // ---- TOKENS

    private static void blanks() {
        Edge.of(Edge.TERMS, "TOKENS of a text, with blanks (32, 10) between them or not:");
        Edge.good("person;firm;", 2);
        Edge.good(" \n person \n\n ;\nfirm\n;\n ", 2);
        Edge.good(TWO + "from\n0 to\n\n1  by 1\n kinds 0 most 1 till 1 sub ;", 3);
        for (int b : new int[] {32, 10}) {
            Edge.good("person" + (char) b + ";", 1);
        }
        for (int b : new int[] {9, 11, 31, 33, 0, 13, 127, 128 + 32, 128 + 10, 255}) {
            Edge.bad("person^" + (char) b + ";", 1);
            Edge.bad("person;^" + (char) b, 1);
        }
        Edge.bad("^per son;", 1);
        Edge.bad(TWO + "from 0 to 1 by 1 kinds 0 most 1 ^0;", 1);
    }

    private static void words() {
        Edge.of(Edge.TERMS, "WORDS: small letters;");
        Edge.good("person;firm;", 2);
        for (String not : new String[] {"Person", "PERSON", "perso", "persons", "persona", "aperson", "zperson", "firn",
            "fir", "firms", "a", "z", "pers`on", "pers{on"}) {
            Edge.bad("^" + not + ";", 1);
        }
        // the signs next to the letters end a WORD, the letters at their edges do not
        Edge.bad("person^`;", 1);
        Edge.bad("person^{;", 1);
        Edge.bad("person^A;", 1);
        Edge.bad("person^Z;", 1);
        Edge.bad("person^" + (char) ('s' + 128) + ";", 1);
        Edge.bad("^persona;", 1);
        Edge.bad("^personz;", 1);
        eachLetterCounts();
    }

    /** One letter of one WORD is another, of all that a TEXT can have. */
    private static void eachLetterCounts() {
        String ahead = TWO + SUB;
        String[] texts = {"person;", "firm;", "under 0 to 1 by 1 kinds 0 most 1 till 1 sub;",
            "from 0 to 1 by 1 kinds 0 most 1 till 1 sub;"};
        for (String text : texts) {
            Edge.good(ahead + text, 4);
            int word = 0;
            for (int i = 0; i < text.length(); i++) {
                word = i == 0 || text.charAt(i - 1) == ' ' ? i : word;
                if (Character.isLetter(text.charAt(i))) {
                    String other = text.substring(word, i) + "x" + text.substring(i + 1);
                    Edge.bad(ahead + text.substring(0, word) + "^" + other, 1);
                }
            }
        }
    }

    private static void numbers() {
        Edge.of(Edge.TERMS, "NUMBERS: 1 to 3 digits;");
        Edge.bad(TWO + "from 0 to 1 by 1 kinds 0 most ^;", 1);
        for (String n : new String[] {"0", "9", "00", "99", "000", "009", "090", "999"}) {
            Desk desk = new Desk(TWO + "from 0 to 1 by 1 kinds 0 most " + n + ";");
            Edge.same("the amount " + n, desk.power(0, 4), Integer.parseInt(n));
        }
        for (String n : new String[] {"0000", "1000", "0001", "9999", "00000", "4294967296", "4294967297",
            "18446744073709551616", Probe.times("0", 60)}) {
            Edge.bad(TWO + "from 0 to 1 by 1 kinds 0 most ^" + n + ";", 1);
            Edge.bad(TWO + "from ^" + n + " to 1 by 1 kinds 0 most 1;", 1);
        }
        for (String sign : new String[] {"/", ":", "-", "+", "."}) {
            Edge.bad(TWO + "from 0 to 1 by 1 kinds 0 most 1^" + sign + ";", 1);
            Edge.bad(TWO + "from 0 to 1 by 1 kinds 0 most ^" + sign + "1;", 1);
        }
    }

    private static void theSign() {
        Edge.of(Edge.TERMS, "the sign ;");
        Edge.good("person;firm;" + TWO, 4);
        Edge.bad("person^:", 1);
        Edge.bad("person^<", 1);
        Edge.bad("person^,", 1);
        Edge.bad("person^" + (char) (128 + ';'), 1);
        Edge.bad("person;^;", 1);
    }

    private static void howFarTokensGo() {
        Edge.of(Edge.TERMS,
            "(A WORD, NUMBER goes on as long as small letters and digits do; what is not as told is no TOKEN.)");
        Edge.good(TWO + "from 0 to 1 by 1 kinds 0 most 1;from 0 to 1 by 1 kinds 0 most 1;person;", 5);
        Edge.bad("^person0;", 1);
        Edge.bad("^0person;", 1);
        Edge.bad("^personperson;", 1);
        Edge.bad(TWO + "^from0 to 1 by 1 kinds 0 most 1;", 1);
        Edge.bad(TWO + "from ^0to 1 by 1 kinds 0 most 1;", 1);
        Edge.bad(TWO + "from 0 to ^1by 1 kinds 0 most 1;", 1);
        Edge.bad(TWO + "from 0 to 1 by 1 ^kinds0 most 1;", 1);
        Edge.bad(TWO + "from 0 to 1 by 1 kinds 0 most ^1a;", 1);
        Edge.bad(TWO + "from 0 to 1 by 1 kinds 0 most ^1a2;", 1);
        Edge.bad(TWO + "from 0 to 1 by 1 kinds 0 most ^a1;", 1);
        Edge.bad(TWO + "from 0 to 1 by 1 kinds 0 most ^1sub;", 1);
        Edge.bad(TWO + "from 0 to 1 by 1 kinds 0 most 1 ^sub1;", 1);
        Edge.bad(TWO + "from 0 to 1 by 1 kinds 0 most 1 ^tillsub;", 1);
        Edge.bad("^p3rson;", 1);
    }

    // ---- the form of a TEXT

    private static void eightHundredBytes() {
        Edge.of(Edge.TERMS, "A TEXT has at most 800 bytes:");
        Edge.good(Edge.filled("person;", 799), 1);
        Edge.good(Edge.filled("person;", 800), 1);
        Edge.bad(Edge.filled("person;", 800) + "^ ", 1);
        Edge.bad(Edge.filled("person;", 800) + "^" + Probe.times("\n", 39), 1);
        Edge.bad(Edge.filled("person;", 800) + "^" + Probe.times("\n", 40), 1);
        Edge.good(Edge.filled("", 792) + "person;", 1);
        Edge.good(Edge.filled("", 793) + "person;", 1);
        Edge.bad(Edge.filled("", 794) + "person^;", 1);
        Edge.good(Edge.filled("", 800), 0);
        Edge.bad(Edge.filled("", 800) + "^ ", 1);
        // as many TOKENS as so many bytes can be
        for (int n : new int[] {799, 800, 801, 840}) {
            Edge.bad("^" + Probe.times(";", n), 1);
            Edge.bad("^" + Probe.times("1;", n / 2), 1);
            Edge.bad("^" + Probe.times("a", n), 1);
        }
    }

    private static void linesAndSigns() {
        Edge.of(Edge.TERMS, "{ LINE ; }.");
        Edge.good("", 0);
        Edge.good(" ", 0);
        Edge.good("person;", 1);
        Edge.good("person;firm;", 2);
        Edge.bad("person^", 1);
        Edge.bad("person;firm^", 1);
        Edge.bad("^;", 1);
        Edge.bad("person;^;", 1);
        Edge.bad("person ^firm;", 1);
        Edge.bad(TWO + "from 0 to 1 by 1 kinds 0 most 1 ^person;", 1);
        Edge.bad(TWO + "from 0 to 1 by 1 kinds 0 most 1^", 1);
    }

    private static void eightParties() {
        Edge.of(Edge.TERMS, "LINE: 'person' | 'firm' (PARTIES, numbered from 0, 8 at most)");
        for (String word : new String[] {"person", "firm"}) {
            for (int n : new int[] {0, 1, 7, 8}) {
                Edge.good(Probe.times(word + ";", n), n);
            }
            Edge.bad(Probe.times(word + ";", 8) + "^person;", 4);
            Edge.bad(Probe.times(word + ";", 8) + "^firm;", 4);
        }
        Desk desk = new Desk("firm;" + Probe.times("person;", 6) + "firm;from 0 to 7 by 1 kinds 0 most 1;");
        Edge.same("PARTIES", desk.now(0), 8);
        Edge.same("firms, numbered from 0 to 7", desk.now(5), 129);
        Edge.same("the eighth holds", desk.power(0, 1), 128);
        Edge.same("the first gives", desk.power(0, 0), 0);
        Edge.same("the eighth dies", desk.die(7), 1);
        Edge.same("there is no ninth", desk.die(8), -1);
        Edge.bad("^persons;", 1);
        Edge.bad("^party;", 1);
    }

    private static void twentyPowers() {
        Edge.of(Edge.TERMS, "| POWER (20 at most, numbered from 0).");
        for (int n : new int[] {0, 1, 19, 20}) {
            Edge.good(TWO + Probe.times(LINE, n), 2 + n);
        }
        Edge.bad(TWO + Probe.times(LINE, 20) + "^" + LINE, 4);
        Edge.good(TWO + Probe.times(LINE, 20) + "person;", 23);
        Desk desk = new Desk(TWO + "from 0 to 1 by 1 kinds 0 most 7;" + Probe.times(LINE, 18)
            + "from 0 to 1 by 1 kinds 0 most 9;");
        Edge.same("POWERS", desk.now(1), 20);
        Edge.same("the first is 0", desk.power(0, 4), 7);
        Edge.same("the twentieth is 19", desk.power(19, 4), 9);
        Edge.same("there is no 20", desk.power(20, 4), Probe.THROWN);
        Edge.same("the least number of two that were told alike", desk.can(2, 0, 0, 9), 19);
    }

    private static void fromOrUnder() {
        Edge.of(Edge.TERMS, "POWER: ( 'from' P | 'under' G )");
        Edge.good(TWO + LINE, 3);
        Edge.good(TWO + SUB + "under 0" + REST, 4);
        Edge.bad(TWO + SUB + "from ^under 0" + REST, 1);
        Edge.bad(TWO + SUB + "under ^from 0" + REST, 1);
        Edge.bad(TWO + SUB + "from 0 ^under 0" + REST, 1);
        Edge.bad(TWO + SUB + "under 0 ^from 0" + REST, 1);
        Edge.bad(TWO + SUB + "from 0 ^0" + REST, 1);
        Edge.bad(TWO + SUB + "under 0 ^0" + REST, 1);
        Edge.bad(TWO + SUB + "from ^to 1", 1);
        Edge.bad(TWO + SUB + "under ^to 1", 1);
        Edge.bad(TWO + SUB + "^to 1 by 1 kinds 0 most 1;", 1);
        Edge.bad(TWO + SUB + "^0 to 1 by 1 kinds 0 most 1;", 1);
    }

    private static void toHolders() {
        Edge.of(Edge.TERMS, "'to' P { P }");
        Edge.bad(TWO + "from 0 to ^by 1 kinds 0 most 1;", 1);
        Edge.bad(TWO + "from 0 ^1 by 1 kinds 0 most 1;", 1);
        Edge.bad(TWO + "from 0 ^by 1 kinds 0 most 1;", 1);
        Edge.bad(TWO + "from 0 to 1 ^to 1 by 1 kinds 0 most 1;", 1);
        Edge.good(TWO + "from 0 to 1 by 1 kinds 0 most 1;", 3);
        Edge.good(EIGHT + "from 0 to 1 2 by 1 kinds 0 most 1;", 9);
        Edge.good(EIGHT + "from 0 to 7 6 5 4 3 2 by 1 kinds 0 most 1;", 9);
        Edge.good(EIGHT + "from 0 to 7 6 5 4 3 2 1 by 1 kinds 0 most 1;", 9);
        Edge.bad(EIGHT + "from 0 to 7 6 5 4 3 2 1 ^0 by 1 kinds 0 most 1;", 3);
        Edge.bad(EIGHT + "from 0 to 7 6 5 4 3 2 1 ^1 by 1 kinds 0 most 1;", 3);
        Edge.bad(EIGHT + "from 0 to 7 6 5 4 3 2 1 ^8 by 1 kinds 0 most 1;", 3);
    }

    private static void byHowMany() {
        Edge.of(Edge.TERMS, "'by' Q");
        Edge.good(TWO + LINE, 3);
        Edge.bad(TWO + "from 0 to 1 ^kinds 0 most 1;", 1);
        Edge.bad(TWO + "from 0 to 1 by ^kinds 0 most 1;", 1);
        Edge.bad(TWO + "from 0 to 1 by 1 ^1 kinds 0 most 1;", 1);
        Edge.bad(TWO + "from 0 to 1 by 1 ^by 1 kinds 0 most 1;", 1);
    }

    private static void kindsOfOne() {
        Edge.of(Edge.TERMS, "'kinds' K { K }");
        Edge.bad(TWO + "from 0 to 1 by 1 kinds ^most 1;", 1);
        Edge.bad(TWO + "from 0 to 1 by 1 ^most 1;", 1);
        Edge.bad(TWO + "from 0 to 1 by 1 ^0 most 1;", 1);
        Edge.bad(TWO + "from 0 to 1 by 1 kinds 0 ^kinds 1 most 1;", 1);
        Edge.good(TWO + "from 0 to 1 by 1 kinds 0 most 1;", 3);
        Edge.good(TWO + "from 0 to 1 by 1 kinds 0 5 most 1;", 3);
        Edge.good(TWO + "from 0 to 1 by 1 kinds 5 4 3 2 1 most 1;", 3);
        Edge.good(TWO + "from 0 to 1 by 1 kinds 5 4 3 2 1 0 most 1;", 3);
        Edge.bad(TWO + "from 0 to 1 by 1 kinds 5 4 3 2 1 0 ^0 most 1;", 3);
        Edge.bad(TWO + "from 0 to 1 by 1 kinds 5 4 3 2 1 0 ^6 most 1;", 2);
    }

    private static void mostAndWhatMayCome() {
        Edge.of(Edge.TERMS, "'most' N [ 'till' DAY ] [ 'sub' ]:");
        String ahead = TWO + "from 0 to 1 by 1 kinds 0 ";
        Edge.good(ahead + "most 1;", 3);
        Edge.good(ahead + "most 1 till 1;", 3);
        Edge.good(ahead + "most 1 sub;", 3);
        Edge.good(ahead + "most 1 till 1 sub;", 3);
        Edge.bad(ahead + "^;", 1);
        Edge.bad(ahead + "^till 1;", 1);
        Edge.bad(ahead + "^sub;", 1);
        Edge.bad(ahead + "most^;", 1);
        Edge.bad(ahead + "most ^till 1;", 1);
        Edge.bad(ahead + "most 1 ^1;", 1);
        Edge.bad(ahead + "most 1 ^most 1;", 1);
        Edge.bad(ahead + "most 1 till^;", 1);
        Edge.bad(ahead + "most 1 till ^sub;", 1);
        Edge.bad(ahead + "most 1 till 1 ^1;", 1);
        Edge.bad(ahead + "most 1 till 1 ^till 1;", 1);
        Edge.bad(ahead + "most 1 sub ^till 1;", 1);
        Edge.bad(ahead + "most 1 sub ^sub;", 1);
        Edge.bad(ahead + "most 1 sub ^1;", 1);
        Edge.bad(ahead + "most 1 till 1 sub ^sub;", 1);
    }

    // ---- what a LINE tells

    private static void whoGives() {
        Edge.of(Edge.TERMS, "a PARTY told ahead that gives it,");
        Edge.good(TWO + "from 0 to 1 by 1 kinds 0 most 1;", 3);
        Edge.good(TWO + "from 1 to 0 by 1 kinds 0 most 1;", 3);
        Edge.bad(TWO + "from ^2 to 0 by 1 kinds 0 most 1;", 3);
        Edge.bad(TWO + "from ^2 to 0 by 1 kinds 0 most 1;person;", 3);
        Edge.good(TWO + "person;from 2 to 0 by 1 kinds 0 most 1;", 4);
        Edge.bad("from ^0 to 1 by 1 kinds 0 most 1;" + TWO, 3);
        Edge.good(EIGHT + "from 7 to 0 by 1 kinds 0 most 1;", 9);
        Edge.bad(EIGHT + "from ^8 to 0 by 1 kinds 0 most 1;", 3);
        Edge.bad(EIGHT + "from ^256 to 1 by 1 kinds 0 most 1;", 3);
        Edge.bad(EIGHT + "from ^32 to 1 by 1 kinds 0 most 1;", 3);
        Desk desk = new Desk("firm;person;from 0 to 1 by 1 kinds 0 most 1;from 1 to 0 by 1 kinds 0 most 1;");
        Edge.same("a firm gives", desk.power(0, 0), 0);
        Edge.same("a person gives", desk.power(1, 0), 1);
    }

    private static void underWhich() {
        Edge.of(Edge.TERMS,
            "or a POWER told ahead, with 'sub', under which it is handed on (who gave that gives it, too);");
        Edge.good(TWO + SUB + "under 0" + REST, 4);
        Edge.bad(TWO + SUB + "under ^1" + REST, 3);
        Edge.bad(TWO + SUB + "under ^1 to 1 by 1 kinds 0 most 1 sub;", 3);
        Edge.bad(TWO + SUB + "under ^2" + REST + SUB, 3);
        Edge.bad(TWO + "under ^0" + REST + SUB, 3);
        Edge.bad(TWO + LINE + "under ^0" + REST, 3);
        Edge.bad(TWO + LINE + SUB + "under ^0" + REST, 3);
        Edge.good(TWO + LINE + SUB + "under 1" + REST, 5);
        Edge.good(TWO + Probe.times(SUB, 19) + "under 18" + REST, 22);
        Edge.bad(TWO + Probe.times(SUB, 19) + "under ^19" + REST, 3);
        Desk desk = new Desk("person;person;person;from 2 to 0 by 1 kinds 0 most 1 sub;"
            + "under 0 to 1 by 1 kinds 0 most 1 sub;under 1 to 0 by 1 kinds 0 most 1;");
        for (int power = 0; power < 3; power++) {
            Edge.same("who gives " + power, desk.power(power, 0), 2);
            Edge.same("under which is " + power, desk.power(power, 7), power - 1);
        }
        String more = "person;person;person;from 2 to 0 by 1 kinds 0 most 1 sub;under 0 to ";
        Edge.bad(more + "^2 by 1 kinds 0 most 1;", 3);
        Edge.good(more + "0 by 1 kinds 0 most 1;", 5);
    }

    private static void holdersAlike() {
        Edge.of(Edge.TERMS, "its HOLDERS (no two alike, not who gives it);");
        String ahead = "person;person;person;";
        Edge.good(ahead + "from 1 to 0 by 1 kinds 0 most 1;", 4);
        Edge.bad(ahead + "from 1 to ^1 by 1 kinds 0 most 1;", 3);
        Edge.good(ahead + "from 1 to 2 by 1 kinds 0 most 1;", 4);
        Edge.bad(ahead + "from 1 to ^3 by 1 kinds 0 most 1;", 3);
        Edge.good(ahead + "from 1 to 2 0 by 1 kinds 0 most 1;", 4);
        Edge.bad(ahead + "from 1 to 0 ^1 by 1 kinds 0 most 1;", 3);
        Edge.bad(ahead + "from 1 to 0 ^0 by 1 kinds 0 most 1;", 3);
        Edge.bad(ahead + "from 1 to 0 ^000 by 1 kinds 0 most 1;", 3);
        Edge.bad(ahead + "from 1 to 0 2 ^0 by 1 kinds 0 most 1;", 3);
        Edge.good(ahead + "from 1 to 0 by 1 kinds 0 most 1;from 1 to 0 by 1 kinds 0 most 1;", 5);
    }

    private static void howManyTogether() {
        Edge.of(Edge.TERMS, "Q: how many of these must act together (1 to how many they are);");
        String[] holders = {"1", "1 2", "1 2 3 4 5 6", "1 2 3 4 5 6 7"};
        int[] many = {1, 2, 6, 7};
        for (int i = 0; i < many.length; i++) {
            String ahead = EIGHT + "from 0 to " + holders[i] + " by ";
            Edge.bad(ahead + "^0 kinds 0 most 1;", 2);
            Edge.good(ahead + "1 kinds 0 most 1;", 9);
            Edge.good(ahead + many[i] + " kinds 0 most 1;", 9);
            Edge.bad(ahead + "^" + (many[i] + 1) + " kinds 0 most 1;", 2);
            Edge.bad(ahead + "^999 kinds 0 most 1;", 2);
            Edge.bad(ahead + "^000 kinds 0 most 1;", 2);
        }
        Desk desk = new Desk(EIGHT + "from 0 to 1 2 3 4 5 6 7 by 007 kinds 0 most 1;");
        Edge.same("all must", desk.power(0, 2), 7);
    }

    private static void kindsUpToFive() {
        Edge.of(Edge.TERMS, "KINDS of acts (0 to 5, no two alike);");
        for (int k = 0; k <= 5; k++) {
            Desk desk = new Desk(TWO + "from 0 to 1 by 1 kinds " + k + " most 1;");
            Edge.same("KIND " + k, desk.power(0, 3), 1 << k);
            Edge.bad(TWO + "from 0 to 1 by 1 kinds " + k + " ^" + k + " most 1;", 3);
            Edge.bad(TWO + "from 0 to 1 by 1 kinds " + k + " ^00" + k + " most 1;", 3);
        }
        for (int k : new int[] {6, 7, 32, 37, 999}) {
            Edge.bad(TWO + "from 0 to 1 by 1 kinds ^" + k + " most 1;", 2);
            Edge.bad(TWO + "from 0 to 1 by 1 kinds 5 ^" + k + " most 1;", 2);
        }
        Edge.good(TWO + "from 0 to 1 by 1 kinds 5 most 1;from 0 to 1 by 1 kinds 5 most 1;", 4);
    }

    private static void amountsUpTo999() {
        Edge.of(Edge.TERMS, "the greatest amount (0 to 999);");
        for (int n : new int[] {0, 1, 998, 999}) {
            Desk desk = new Desk(TWO + "from 0 to 1 by 1 kinds 0 most " + n + ";");
            Edge.same("the amount", desk.power(0, 4), n);
        }
        Edge.bad(TWO + "from 0 to 1 by 1 kinds 0 most ^1000;", 1);
        Edge.bad(TWO + "from 0 to 1 by 1 kinds 0 most ^-1;", 1);
    }

    private static void daysUpTo999() {
        Edge.of(Edge.TERMS, "the last DAY (0 to 999);");
        for (int n : new int[] {0, 1, 998, 999}) {
            Desk desk = new Desk(TWO + "from 0 to 1 by 1 kinds 0 most 1 till " + n + ";");
            Edge.same("the last DAY", desk.power(0, 5), n);
        }
        Edge.bad(TWO + "from 0 to 1 by 1 kinds 0 most 1 till ^1000;", 1);
        Edge.bad(TWO + "from 0 to 1 by 1 kinds 0 most 1 till ^-1;", 1);
    }

    private static void handedOn() {
        Edge.of(Edge.TERMS, "whether others may be handed on under it.");
        Desk desk = new Desk(TWO + SUB + LINE + "under 0" + REST + "under 0" + REST);
        Edge.same("with 'sub'", desk.power(0, 6), 1);
        Edge.same("without", desk.power(1, 6), 0);
        Edge.same("one under it", desk.power(2, 7), 0);
        Edge.same("another under it", desk.power(3, 7), 0);
        Edge.bad(TWO + SUB + LINE + "under ^1" + REST, 3);
        Edge.bad(TWO + SUB + "under 0" + REST + "under ^1" + REST, 3);
        Edge.good(TWO + SUB + "under 0 to 1 by 1 kinds 0 most 1 sub;under 1" + REST, 5);
    }

    // ---- FAULTS

    private static void theFirstFault() {
        Edge.of(Edge.TERMS, "FAULTS, the first along the text, of one TOKEN the least:");
        Edge.bad(TWO + "from ^2 to 0 0 by 9 kinds 9 9 boss", 3);
        Edge.bad(TWO + "from 0 to 1 by ^9 kinds 9 9 boss", 2);
        Edge.bad(TWO + "from 0 to 1 by 1 kinds 0 ^0 9 boss", 3);
        Edge.bad(TWO + "from 0 to 1 by 1 kinds 0 ^9 0 boss", 2);
        Edge.bad(TWO + "from 0 to 1 by 1 kinds 0 ^boss 0 9", 1);
        Edge.bad("^boss;" + EIGHT + "person;", 1);
        Edge.bad(EIGHT + "^person boss", 4);
        // a TOKEN that can't come and is a ninth PARTY, or a 21st POWER; one that is none and not as told
        Edge.bad(Probe.times("person;", 7) + "person ^person;", 1);
        Edge.bad(TWO + Probe.times(LINE, 19) + "from 0 to 1 by 1 kinds 0 most 1 ^from 0", 1);
        Edge.bad(TWO + "from ^0009 to 1", 1);
        Edge.bad(TWO + "from 0 to 1 ^0001 by 1", 1);
        Edge.bad(TWO + "from 0 to 1 by ^0009 kinds", 1);
        Edge.bad(TWO + "from 0 to 1 by 1 kinds 0 ^0000 most", 1);
    }

    private static void cantCome() {
        Edge.of(Edge.TERMS, "1 no TOKEN, or one that can't come (at it;");
        String[] never = {"boss", "A", "1000", "1a", "-", "person", "firm", "under"};
        StringBuilder ahead = new StringBuilder(TWO);
        for (String token : TOKENS) {
            for (String other : never) {
                // a LINE can begin with these
                if (!token.equals("from") || !other.equals("person") && !other.equals("firm") && !other.equals("under")) {
                    Edge.bad(ahead + " \n^" + other + " ;", 1);
                }
            }
            ahead.append(' ').append(token);
        }
        Edge.good(ahead.toString(), 3);
        for (String word : new String[] {"to", "by", "kinds", "most", "till", "sub", "0", ";"}) {
            Edge.bad("^" + word + ";", 1);
            Edge.bad(TWO + LINE + " ^" + word + ";", 1);
        }
    }

    private static void theEnd() {
        Edge.of(Edge.TERMS, "the end: how many bytes there are;");
        StringBuilder ahead = new StringBuilder(TWO);
        for (String token : TOKENS) {
            if (ahead.length() > TWO.length()) {
                Edge.bad(ahead + "^", 1);
                Edge.bad(ahead + " ^", 1);
                Edge.bad(ahead + "\n \n^", 1);
            }
            ahead.append(' ').append(token);
        }
        Edge.good(ahead.toString(), 3);
        Edge.bad("person^", 1);
        Edge.bad(Edge.filled("person", 798) + "^", 1);
        Edge.bad(Edge.filled("person", 799) + "^", 1);
        Edge.bad(Edge.filled("person", 800) + "^", 1);
        Edge.bad(Edge.filled("", 793) + "person^", 1);
        Edge.bad(Edge.filled("", 794) + "person^", 1);
    }

    private static void behind800() {
        Edge.of(Edge.TERMS,
            "800, if there are more and no FAULT is ahead: TOKENS that begin ahead of it are read whole);");
        Edge.bad(Edge.filled("person", 800) + "^ ", 1);
        Edge.bad(Edge.filled("person", 800) + "^;", 1);
        Edge.bad(Edge.filled("person", 799) + ";^ ", 1);
        Edge.bad(Edge.filled("person;", 800) + "^person;", 1);
        Edge.bad(Edge.filled("person;", 799) + "p^erson;", 1);
        Edge.bad(Edge.filled("person;", 799) + "^persom;", 1);
        Edge.bad(Edge.filled("person;", 800) + "^boss;", 1);
        Edge.bad(Edge.filled("person;", 799) + "^boss;", 1);
        Edge.bad(Edge.filled("person;", 798) + "^boss;", 1);
        Edge.bad(Edge.filled("person;", 799) + "^A", 1);
        Edge.bad(Edge.filled("person;", 799) + "^Ab", 1);
        Edge.bad(Edge.filled("person;", 800) + "^A", 1);
        Edge.bad(Edge.filled("person;", 799) + " ^A", 1);
        // a number of which one digit stands ahead of 800
        String by = "from 0 to 1 by ";
        Edge.bad(Edge.filled("person;person;" + by, 798) + "1 ^1 kinds", 1);
        Edge.bad(Edge.filled("person;person;" + by, 799) + "^11 kinds", 2);
        Edge.bad(Edge.filled("person;person;" + by, 799) + "^1111 kinds", 1);
        Edge.bad(Edge.filled("person;person;" + by, 799) + "0^01 kinds", 1);
        Edge.bad(Edge.filled("person;person;" + by, 800) + "^11 kinds", 1);
        Edge.bad(Edge.filled("person;person;from", 799) + "^999 to", 3);
        Edge.bad(Edge.filled("person;person;from", 800) + "^999 to", 1);
        Edge.bad(Edge.filled("person;person;from 0 to 1", 799) + "^1 by", 3);
        Edge.bad(Edge.filled("person;person;from 0 to 1", 800) + "^1 by", 1);
        Edge.bad(Edge.filled(EIGHT, 799) + "^firm;", 4);
        Edge.bad(Edge.filled(EIGHT, 800) + "^firm;", 1);
        Edge.bad(Edge.filled(EIGHT, 799) + "^firmfirmfirmfirmfirmfirmfirmfirmfirmfirm;", 1);
    }

    private static void wrongNumbers() {
        Edge.of(Edge.TERMS, "2 a NUMBER that is not as told (at it; of P, G: 3);");
        Edge.bad(TWO + "from 0 to 1 by  ^0 kinds 0 most 1;", 2);
        Edge.good(TWO + "from 0 to 1 by  1 kinds 0 most 1;", 3);
        Edge.bad(TWO + "from 0 to 1 by\n^2 kinds 0 most 1;", 2);
        Edge.good(TWO + "from 0 to 1 by 1 kinds 5 most 1;", 3);
        Edge.bad(TWO + "from 0 to 1 by 1 kinds ^6 most 1;", 2);
        Edge.bad(TWO + "from 0 to 1 by 1 kinds 0 1\n^999 most 1;", 2);
        Edge.bad(TWO + "from ^999 to 1 by 1 kinds 0 most 1;", 3);
        Edge.bad(TWO + "from 0 to ^999 by 1 kinds 0 most 1;", 3);
        Edge.bad(TWO + SUB + "under ^999 to 1 by 1 kinds 0 most 1;", 3);
    }

    private static void notTold() {
        Edge.of(Edge.TERMS, "3 a P, G that is not told,");
        Edge.good(TWO + "from 1 to 0 by 1 kinds 0 most 1;", 3);
        Edge.bad(TWO + "from  ^2 to 0 by 1 kinds 0 most 1;", 3);
        Edge.good(TWO + "from 0 to 1 by 1 kinds 0 most 1;", 3);
        Edge.bad(TWO + "from 0 to  ^2 by 1 kinds 0 most 1;", 3);
        Edge.bad(TWO + "from 0 to 1 ^2 by 1 kinds 0 most 1;person;", 3);
        Edge.good(TWO + SUB + "under 0 to 1 by 1 kinds 0 most 1;", 4);
        Edge.bad(TWO + SUB + "under  ^1 to 1 by 1 kinds 0 most 1;", 3);
        Edge.bad("from ^0", 3);
        Edge.bad("under ^0", 3);
    }

    private static void holdersToldAlready() {
        Edge.of(Edge.TERMS, "a HOLDER told already in this LINE or who gives it,");
        Edge.bad(TWO + "person;from 0 to 1 2  ^1 by 1 kinds 0 most 1;", 3);
        Edge.bad(TWO + "person;from 0 to 1 2  ^2 by 1 kinds 0 most 1;", 3);
        Edge.bad(TWO + "person;from 0 to 1 2  ^0 by 1 kinds 0 most 1;", 3);
        Edge.bad(TWO + "person;from 1 to  ^1 by 1 kinds 0 most 1;", 3);
        Edge.bad(TWO + SUB + "under 0 to  ^0 by 1 kinds 0 most 1;", 3);
        Edge.good(TWO + "person;from 0 to 1 2 by 1 kinds 0 most 1;from 1 to 2 0 by 1 kinds 0 most 1;", 5);
    }

    private static void withoutSub() {
        Edge.of(Edge.TERMS, "a POWER without 'sub' (at it),");
        Edge.bad(TWO + LINE + "under  ^0" + REST, 3);
        Edge.good(TWO + SUB + "under  0" + REST, 4);
        Edge.bad(TWO + SUB + LINE + SUB + "under ^1" + REST, 3);
        Edge.good(TWO + SUB + LINE + SUB + "under 0" + REST + "under 2" + REST, 7);
    }

    private static void kindsToldAlready() {
        Edge.of(Edge.TERMS, "a K told already in this LINE (at it);");
        Edge.bad(TWO + "from 0 to 1 by 1 kinds 0  ^0 most 1;", 3);
        Edge.bad(TWO + "from 0 to 1 by 1 kinds 5 4  ^5 most 1;", 3);
        Edge.bad(TWO + "from 0 to 1 by 1 kinds 5 4  ^4 most 1;", 3);
        Edge.good(TWO + "from 0 to 1 by 1 kinds 5 4 3 most 1;from 0 to 1 by 1 kinds 3 4 5 most 1;", 4);
    }

    private static void theNinthAndThe21st() {
        Edge.of(Edge.TERMS, "4 a ninth PARTY, a 21st POWER (at the WORD).");
        Edge.good(EIGHT, 8);
        Edge.bad(EIGHT + " \n^person;", 4);
        Edge.bad(EIGHT + "^firm", 4);
        Edge.bad(EIGHT + LINE + "^firm;", 4);
        String twenty = TWO + Probe.times(LINE, 20);
        Edge.good(twenty, 22);
        Edge.bad(twenty + " \n^from 0 to 1", 4);
        Edge.bad(twenty + "^from", 4);
        Edge.bad(twenty + "^under 99", 4);
        Edge.bad(twenty + "person;^from 0", 4);
        Edge.bad(twenty + Probe.times("firm;", 6) + "^firm;", 4);
    }

    // ---- promises 1 to 5

    private static void newObject() {
        Edge.of("Promise 1: A new object", "No PARTIES, no POWERS; an empty tape.");
        Desk desk = new Desk();
        for (int what = 0; what <= 7; what++) {
            Edge.same("now(" + what + ")", desk.now(what), 0);
        }
        Edge.same("fault()", desk.fault(), 0);
        for (int one : new int[] {-1, 0, 1}) {
            Edge.same("power(" + one + ", 0)", desk.power(one, 0), Probe.THROWN);
            Edge.same("act(" + one + ", 0)", desk.act(one, 0), Probe.THROWN);
            Edge.same("scope", desk.scope(one, 0, 0), -1);
            Edge.same("over", desk.over(one), -1);
            Edge.same("entry", desk.entry(one, 0), -1);
            Edge.same("binds", desk.binds(one, 0), -1);
            Edge.same("used", desk.used(one), -1);
            Edge.same("can", desk.can(1, one, 0, 0), -1);
            Edge.same("upTo", desk.upTo(1, one, 0), -1);
            Edge.same("alone", desk.alone(one, 0, 0), -1);
            Edge.same("fewest", desk.fewest(one, 0, 0), -1);
            Edge.same("hang", desk.hang(one), -1);
            Edge.same("bound", desk.bound(one, 0), -1);
            Edge.same("letter", desk.letter(one, 0), -1);
            Edge.same("narrow", desk.narrow(one, 0, 0), -1);
            Edge.same("finish", desk.finish(one), -1);
            Edge.same("enter", desk.enter(one, false), -1);
            Edge.same("enter its end", desk.enter(one, true), -1);
            Edge.same("notice", desk.notice(one, 0), -1);
            Edge.same("die", desk.die(one), -1);
            Edge.same("does", desk.does(1, one, 1, 0, 0), -1);
            Edge.same("approve", desk.approve(one), -1);
            Edge.same("giveUp", desk.giveUp(one), -1);
        }
        Edge.same("MOMENT", desk.moment(), 0);
        Edge.yes("end(1)", !desk.end(1));
        Edge.yes("end(0)", desk.end(0));
        Edge.same("text()", desk.text(), 0);
    }

    private static void feedBehind() {
        Edge.of(FEED, "Twenty bytes come behind the tape,");
        Desk desk = new Desk();
        desk.feed("person;firm;person;f");
        desk.feed("irm;firm;firm;person");
        desk.feed(";   !               ");
        Edge.same("bytes", desk.now(7), 60);
        Edge.same("the place of the sign", desk.text(), -1 - 44);
        desk.feed("person;xxxxxxxxxxxxx");
        desk.end(7);
        desk.feed("firm;firm;          ");
        Edge.same("behind what was left", desk.now(7), 27);
        Edge.same("LINES", desk.text(), 3);
        Edge.same("firms", desk.now(5), 6);
    }

    private static void feedHighestFirst() {
        Edge.of(FEED, "of each number the highest first:");
        for (int i = 0; i < 20; i++) {
            for (int b : new int[] {0, 127, 128, 255}) {
                StringBuilder twenty = new StringBuilder(Probe.times(" ", 20));
                twenty.setCharAt(i, (char) b);
                Desk desk = new Desk();
                desk.feed(twenty.toString());
                Edge.same("byte " + b + " at " + i, desk.text(), -1 - i);
            }
        }
        AuthorityBook book = new AuthorityBook();
        book.feed(0x70657273, 0x6f6e3b20, 0x6669726d, 0x3b66726f, 0x6d203020);
        book.feed(0x746f2031, 0x20627920, 0x31206b69, 0x6e647320, 0x35206d6f);
        book.feed(0x73742037, 0x3b202020, 0x20202020, 0x0a0a0a0a, 0x20202020);
        Edge.same("a text of numbers", book.text(), 3);
        Edge.same("its amount", book.power(0, 4), 7);
    }

    private static void feedCounts() {
        Edge.of(FEED, "how many it has;");
        Desk desk = new Desk();
        for (int n = 20; n <= 840; n += 20) {
            Edge.same("feed", desk.feed("firm;"), n);
        }
        desk.end(0);
        Edge.same("behind none", desk.feed("firm;"), 20);
        desk.end(1);
        Edge.same("behind one", desk.feed("firm;"), 21);
        desk.end(19);
        Edge.same("behind 19", desk.feed("firm;"), 39);
    }

    private static void feedFull() {
        Edge.of(FEED, "NONE, and none come, if it would have more than 840.");
        int[] had = {819, 820, 821, 822, 839, 840};
        int[] due = {839, 840, -1, -1, -1, -1};
        for (int i = 0; i < had.length; i++) {
            Desk desk = new Desk();
            for (int k = 0; k < 42; k++) {
                desk.feed("                    ");
            }
            desk.end(had[i]);
            Edge.same("feed behind " + had[i], desk.feed("!!!!!!!!!!!!!!!!!!!!"), due[i]);
            int has = due[i] < 0 ? had[i] : due[i];
            Edge.same("bytes", desk.now(7), has);
            Edge.yes("no more than these", !desk.end(has + 1));
            Edge.yes("all of these", desk.end(has));
            Edge.same("again", desk.feed("                    "), -1);
            desk.end(800);
            Edge.same("what was ahead has stayed", desk.text(), 0);
        }
    }

    private static void endKeeps() {
        Edge.of(END, "The tape has its first n bytes alone: true;");
        int[] lengths = {0, 7, 12, 13, 19, 20};
        int[] lines = {0, 1, 2, -1 - 12, -1 - 12, -1 - 12};
        for (int i = 0; i < lengths.length; i++) {
            Desk desk = new Desk();
            desk.feed("person;firm;!!!!!!!!");
            Edge.yes("end(" + lengths[i] + ")", desk.end(lengths[i]));
            Edge.same("bytes", desk.now(7), lengths[i]);
            Edge.same("text()", desk.text(), lines[i]);
        }
        Desk desk = new Desk();
        desk.feed("person;firm;!!!!!!!!");
        Edge.yes("end(12)", desk.end(12));
        Edge.yes("the same again", desk.end(12));
        Edge.yes("end(7)", desk.end(7));
        Edge.yes("what went does not come again", !desk.end(12));
        Edge.same("LINES", desk.text(), 1);
        Edge.yes("of an empty tape, its first 0", desk.end(0));
        // what was cut off does not go on with a WORD or NUMBER
        cutTo("person;firms", 11, -1 - 11);
        cutTo("person;firm;", 11, -1 - 11);
        cutTo("person;person;from 00 to 1", 20, -1 - 20);
        cutTo("person;person;from 0a to 1", 20, -1 - 20);
        cutTo("person;person;", 13, -1 - 13);
        cutTo("person;x", 7, 1);
        cutTo("person; x", 8, 1);
    }

    private static void cutTo(String text, int n, int due) {
        Desk desk = new Desk();
        for (int i = 0; i < text.length(); i += 20) {
            desk.feed(text.substring(i));
        }
        Edge.yes("end(" + n + ")", desk.end(n));
        Edge.same("text() of the first " + n + " of " + text, desk.text(), due);
    }

    private static void endRefuses() {
        Edge.of(END, "false, if it has not so many, or n is below 0.");
        Desk desk = new Desk();
        Edge.yes("end(1) of 0", !desk.end(1));
        Edge.yes("end(-1) of 0", !desk.end(-1));
        Edge.yes("end(0) of 0", desk.end(0));
        desk.feed("person;firm;person; ");
        for (int n : new int[] {21, 22, 840, 841, Integer.MAX_VALUE, -1, -2, -20, Integer.MIN_VALUE}) {
            Edge.yes("end(" + n + ") of 20", !desk.end(n));
            Edge.same("bytes", desk.now(7), 20);
        }
        Edge.yes("end(20) of 20", desk.end(20));
        Edge.same("all are there", desk.text(), 3);
        for (int i = 0; i < 42; i++) {
            desk.feed("                    ");
        }
        Edge.yes("end(841) of 840", !desk.end(841));
        Edge.yes("end(840) of 840", desk.end(840));
    }

    private static void textEmptiesTheTape() {
        Edge.of(TEXT, "The tape (empty then, even with a FAULT) is a TEXT:");
        Desk desk = new Desk();
        Edge.same("an empty tape", desk.text(), 0);
        Edge.same("a good one", desk.tell("person;"), 1);
        Edge.same("bytes behind it", desk.now(7), 0);
        Edge.yes("end(1) behind it", !desk.end(1));
        Edge.same("one with a FAULT", desk.tell("person;boss;"), -8);
        Edge.same("bytes behind the FAULT", desk.now(7), 0);
        Edge.yes("end(1) behind the FAULT", !desk.end(1));
        Edge.same("the next bytes are the first", desk.feed("firm;firm;          "), 20);
        Edge.same("and are read alone", desk.text(), 2);
        Edge.same("a full tape", desk.tell(Probe.times(" ", 840)), -801);
        Edge.same("bytes behind the full tape", desk.now(7), 0);
        Edge.same("empty again: a TEXT of no LINES", desk.text(), 0);
        Edge.same("so there are no PARTIES", desk.now(0), 0);
    }

    private static void textCountsLines() {
        Edge.of(TEXT, "how many LINES;");
        Edge.good("", 0);
        Edge.good("\n", 0);
        Edge.good("firm;", 1);
        Edge.good(EIGHT, 8);
        Edge.good(TWO + LINE, 3);
        Edge.good(Probe.times("firm;", 8) + Probe.times(LINE, 19), 27);
        Edge.good(Probe.times("firm;", 8) + Probe.times(LINE, 20), 28);
    }

    private static void textWithFault() {
        Edge.of(TEXT, "-1 less the place of a FAULT: all stays.");
        Desk desk = new Desk("person;firm;person;person;" + "from 0 to 2 by 1 kinds 0 1 most 50 sub;"
            + "under 0 to 1 3 by 1 kinds 0 most 40;");
        desk.days(3);
        desk.enter(0, false);
        desk.does(4, 0, 3, 0, 10);
        desk.does(4, 0, 3, 2, 10);
        desk.finish(1);
        desk.approve(1);
        desk.die(1);
        String ahead = desk.state();
        String[] faulty = {"!", " !", "firm;firm;from 1 to 0 by 1 kinds 4 most 7 till 5 sub;^", Probe.times(" ", 801),
            Probe.times("firm;", 9), "person;person;from 1 to 0 by 2 kinds 5 most 9;"};
        int[] due = {-1, -2, -54, -801, -41, -30};
        for (int i = 0; i < faulty.length; i++) {
            Edge.same("text " + i, desk.tell(faulty[i]), due[i]);
            Edge.sameText("what stands behind text " + i, desk.state(), ahead);
        }
    }

    private static void faultOfTheLatest() {
        Edge.of(FAULT, "The kind of the FAULT of the latest text();");
        Desk desk = new Desk();
        String[] texts = {"boss", "person;person;from 0 to 1 by 0", "from 0", Probe.times("firm;", 9), "firm;", "firm"};
        int[] due = {1, 2, 3, 4, 0, 1};
        for (int i = 0; i < texts.length; i++) {
            desk.tell(texts[i]);
            Edge.same("fault() of " + texts[i], desk.fault(), due[i]);
            Edge.same("again", desk.fault(), due[i]);
        }
        desk.feed("person;             ");
        desk.days(1);
        desk.power(0, 0);
        Edge.same("other calls leave it", desk.fault(), 1);
        desk.text();
        Edge.same("a good text does not", desk.fault(), 0);
    }

    private static void faultWithout() {
        Edge.of(FAULT, "0 without one and ahead of any.");
        Desk desk = new Desk();
        Edge.same("ahead of any", desk.fault(), 0);
        desk.feed("boss                ");
        Edge.same("ahead of any, with a tape", desk.fault(), 0);
        desk.text();
        Edge.same("with one", desk.fault(), 1);
        desk.text();
        Edge.same("without one", desk.fault(), 0);
    }
}
