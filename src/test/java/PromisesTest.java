import java.util.NoSuchElementException;

/** For each promise of the document: ordinary inputs, the edges that it names, and wrong inputs. */
public final class PromisesTest {
    private static final int NONE = CellarTurns.NONE;
    private static final int LEAST = Integer.MIN_VALUE;
    private static final int MOST = Integer.MAX_VALUE;
    private static final String TWO = "person a plain; person b plain;";
    private static final String THREE = TWO + "person c plain;";
    private static final String FOUR = THREE + "person d plain;";
    private static final String SIX = FOUR + "person e plain; person f plain;";

    private static int passed = 0;
    private static int failed = 0;

    private PromisesTest() {
    }

    public static void main(String[] args) {
        newObject();
        feed();
        cellar();
        cellarRings();
        cellarLaws();
        cellarKeepsOrTakesAll();
        law();
        evening();
        body();
        mind();
        may();
        turn();
        round();
        fetch();
        undo();
        judged();
        rings();
        left();
        enoughAndHome();
        met();
        ready();
        best();
        most();
        fewest();
        which();
        least();
        cheap();
        muddles();
        chance();
        see();
        rowsAndPair();
        look();
        evenings();
        mark();
        count();
        System.out.println(passed + " answers as due, " + failed + " not");
        if (failed != 0) {
            System.exit(1);
        }
    }

    private static void due(String what, long got, long want) {
        if (got == want) {
            passed++;
        } else {
            failed++;
            System.out.println(what + " answered " + got + ", due is " + want);
        }
    }

    private static void due(String what, boolean got, boolean want) {
        due(what, got ? 1 : 0, want ? 1 : 0);
    }

    private static void cellarFault(String text, int kind, int place) {
        CellarTurns x = new CellarTurns();
        Told.feed(x, text);
        due("cellar " + text, x.cellar(), kind + 16 * place);
        due("signs behind cellar " + text, x.count(12), 0);
    }

    /** The last token of the text is the wrong one; blanks and all ahead of it are right. */
    private static void lastIsWrong(String text, String token, int kind) {
        cellarFault(text + token, kind, text.length());
        cellarFault(text + token + " ? ?", kind, text.length());
    }

    private static void cellarRight(String text) {
        cellarFault(text, 0, 0);
    }

    private static void newObject() {
        CellarTurns x = new CellarTurns();
        int[] counts = {0, 0, 0, 0, 0, 0, 0, 9, 0, 0, 0, 0, 0};
        for (int i = 0; i < counts.length; i++) {
            due("new: count " + i, x.count(i), counts[i]);
        }
        due("new: body", x.body(0, 0), NONE);
        due("new: may", x.may(0, 1), false);
        due("new: undo", x.undo(), false);
        due("new: mark", x.mark(0, true), false);
        due("new: judged 2", x.judged(2), 0);
        due("new: evening", x.evening(), 0);
        due("new: cellar", x.cellar(), 0);
        due("new: chance", x.chance(3), 1000000);
    }

    private static void feed() {
        CellarTurns x = new CellarTurns();
        due("feed nothing", x.feed(0, 0, 0), 0);
        due("feed leaves out", x.feed(0x091F7F80FF0B0D00L, -1L, 0x0100000000000000L), 0);
        due("feed edges", x.feed(0x0A207E0000000000L, 0, 0x0000000000000020L), 4);
        due("the tape is counted", x.count(12), 4);
        due("highest first: the tilde is at 2", x.cellar(), 1 + 16 * 2);
        x.feed(0x2000000000000000L, 0x2020000000000000L, 0x2020207E00000000L);
        due("a, then b, then c", x.cellar(), 1 + 16 * 6);
        for (int i = 0; i < 41; i++) {
            x.feed(0x2020202020202020L, 0x2020202020202020L, 0x2020202020202020L);
        }
        due("984 signs", x.count(12), 984);
        due("a thousand at most", x.feed(0x2020202020202020L, 0x2020202020202020L, 0x7E7E7E7E7E7E7E7EL), 1000);
        due("and not one more", x.feed(0x7E7E7E7E7E7E7E7EL, 0, 0), 1000);
        due("what was beyond is left out", x.cellar(), 0);
        due("what reads takes", x.count(12), 0);
    }

    private static void cellar() {
        cellarRight("");
        cellarRight(" \n ");
        cellarRight("person a plain;person b ill\n;person c shy;person d cat;");
        cellarRight("person wrong plain;person turns plain;person met plain;ring wrong turns met;");
        cellarRight("new a price 0;new b price 999;");
        cellarRight("person abcdefgh plain;");
        cellarRight("often 0009;");
        cellarRight("often 1;");
        cellarRight(THREE + "been a b;been a c;bar a b;bar c b;");
        lastIsWrong("", "cellar", 1);
        lastIsWrong("", ";", 1);
        lastIsWrong(" ", "turn", 1);
        lastIsWrong("", "7", 1);
        lastIsWrong("", "Person", 1);
        cellarFault("person a plain", 1, 14);
        cellarFault("person a plain \n ", 1, 17);
        cellarFault("person", 1, 6);
        lastIsWrong("person ", "plain", 1);
        lastIsWrong("person ", "person", 1);
        lastIsWrong("person ", "or", 1);
        lastIsWrong("person ", "abcdefghi", 1);
        for (String word : ("person new price ring been bar often costs turn round fetch plain ill shy cat not and or")
                .split(" ")) {
            lastIsWrong("person ", word, 1);
            lastIsWrong("new ", word, 1);
        }
        lastIsWrong("person a", "1", 1);
        lastIsWrong("person a ", "b", 1);
        lastIsWrong("person a ", ";", 1);
        lastIsWrong("person a plain ", "plain", 1);
        lastIsWrong("person a plain; person ", "a", 3);
        lastIsWrong("person a plain; new ", "a", 3);
        lastIsWrong("new a price 3; person ", "a", 3);
        lastIsWrong(SIX, "person", 5);
        lastIsWrong("new a price 1; new b price 1; ", "new", 5);
        cellarRight(SIX + "new g price 1; new h price 1;");
        lastIsWrong("new a ", "prices", 1);
        lastIsWrong("new a ", "5", 1);
        lastIsWrong("new a price ", "b", 1);
        lastIsWrong("new a price ", "1000", 4);
        lastIsWrong("new a price ", "12345", 1);
        lastIsWrong("new a price 12", "x", 1);
        lastIsWrong("new a price 1 ", "-", 1);
        lastIsWrong("often ", "0", 4);
        lastIsWrong("often ", "10", 4);
        lastIsWrong("often ", "00009", 1);
        lastIsWrong("often ", ";", 1);
        lastIsWrong("often 9; ", "often", 3);
    }

    private static void cellarRings() {
        cellarRight(SIX + "ring f e d c b a;");
        cellarRight(SIX + "ring a b;ring c d;ring e f;");
        lastIsWrong(THREE + "ring ", ";", 1);
        lastIsWrong(THREE + "ring a ", ";", 1);
        lastIsWrong(THREE + "ring a b ", "ring", 1);
        lastIsWrong(THREE + "ring a b ", "3", 1);
        lastIsWrong(THREE + "ring a ", "d", 2);
        lastIsWrong(THREE + "new d price 1; ring a ", "d", 2);
        lastIsWrong(THREE + "ring a b ", "a", 3);
        lastIsWrong(THREE + "ring ", "been", 1);
        lastIsWrong(THREE + "ring a b; ring ", "b", 3);
        lastIsWrong(SIX + "ring a b c d e f ", "a", 3);
        lastIsWrong(SIX + "ring a b c d e f ", "g", 2);
        lastIsWrong("ring ", "a", 2);
        for (String word : new String[] {"been ", "bar "}) {
            lastIsWrong(THREE + word, ";", 1);
            lastIsWrong(THREE + word, "d", 2);
            lastIsWrong(THREE + word + "a ", "d", 2);
            lastIsWrong(THREE + "new d price 1;" + word, "d", 2);
            lastIsWrong(THREE + "new d price 1;" + word + "a ", "d", 2);
            lastIsWrong(THREE + word + "a ", "a", 3);
            lastIsWrong(THREE + word + "a ", "cat", 1);
            lastIsWrong(THREE + word + "a b ", "c", 1);
            lastIsWrong(THREE + word + "a b;" + word + "a ", "b", 3);
            lastIsWrong(THREE + word + "a b;" + word + "b ", "a", 3);
        }
    }

    private static void cellarLaws() {
        cellarRight("costs 1;");
        cellarRight("costs 1or 0;");
        cellarRight("costs ((((1))));");
        cellarRight("costs not(not(1))+not not not not 1;");
        cellarRight("costs 1<2 and 3=4 or(5-6*7);");
        lastIsWrong("costs ", ";", 1);
        lastIsWrong("costs ", "left", 1);
        lastIsWrong("costs ", "-", 1);
        lastIsWrong("costs ", "12345", 1);
        lastIsWrong("costs 1 + ", "+", 1);
        lastIsWrong("costs 1 ", "2", 1);
        lastIsWrong("costs 1 ", "not", 1);
        lastIsWrong("costs 1 < 2 ", "=", 1);
        lastIsWrong("costs 1 = 2 ", "<", 1);
        lastIsWrong("costs (", ")", 1);
        lastIsWrong("costs (1 ", ";", 1);
        lastIsWrong("costs 1 ", ")", 1);
        lastIsWrong("costs 1 and ", "and", 1);
        lastIsWrong("costs (((((", "1", 5);
        lastIsWrong("costs (((((", "wrong", 5);
        lastIsWrong("costs (((((", "(", 5);
        lastIsWrong("costs (((((", "not", 5);
        lastIsWrong("costs (((((", ";", 1);
        lastIsWrong("costs (((((", "a", 1);
        lastIsWrong("costs not (not (not ", "1", 5);
        lastIsWrong("costs not not not not not ", "not", 5);
        lastIsWrong("costs 1; ", "costs", 3);
        cellarFault("costs 1", 1, 7);
        cellarFault("costs (((((", 1, 11);
    }

    private static void cellarKeepsOrTakesAll() {
        CellarTurns x = Told.cellar(THREE + "new n price 7; ring a b; often 4; bar b c;");
        Told.feed(x, "turn a c; fetch n;");
        due("an evening", x.evening(), 0);
        x.turn(0, 1);
        x.see(1, 1);
        x.mark(2, false);
        Told.feed(x, "person z plain; ?");
        due("a fault", x.cellar(), 1 + 16 * 16);
        int[] kept = {4, 1, 3, 1, 1, 0, 0, 4, 1, 2, 1, 1, 0};
        for (int i = 0; i < kept.length; i++) {
            due("kept count " + i, x.count(i), kept[i]);
        }
        due("kept mark", x.mark(2, true), true);
        x.turn(0, 2);
        Told.feed(x, "person z cat; new y price 2; person x ill; ring x z;");
        due("another", x.cellar(), 0);
        int[] taken = {3, 1, 2, 0, 0, 1, 0, 9, 0, 0, 0, 0, 0};
        for (int i = 0; i < taken.length; i++) {
            due("taken count " + i, x.count(i), taken[i]);
        }
        due("no mark", x.mark(2, true), false);
        due("no undo", x.undo(), false);
        due("numbered as told", x.body(1, 2), 2);
        due("cat", x.body(0, 0), 3);
        due("ill", x.body(2, 0), 1);
    }

    private static void costsOfFirstTurn(String law, int cost) {
        CellarTurns x = Told.cellar(THREE + "been a b; costs " + law + ";");
        due("wrong behind", x.turn(0, 2), 2);
        due("costs " + law, x.count(6), cost);
    }

    private static void law() {
        costsOfFirstTurn("wrong * 100 + turns * 10 + met", 201);
        costsOfFirstTurn("1 + 2 * 3", 7);
        costsOfFirstTurn("(1 + 2) * 3", 9);
        costsOfFirstTurn("10 - 3 - 2", 5);
        costsOfFirstTurn("2 < 3", 1);
        costsOfFirstTurn("3 < 3", 0);
        costsOfFirstTurn("wrong = 2", 1);
        costsOfFirstTurn("wrong = 3", 0);
        costsOfFirstTurn("1 or 1 and 0", 0);
        costsOfFirstTurn("0 and 0 or 7", 1);
        costsOfFirstTurn("2 and 4", 1);
        costsOfFirstTurn("5 + not 0", 6);
        costsOfFirstTurn("not 5 + 1", 1);
        costsOfFirstTurn("not (5 + 1)", 0);
        costsOfFirstTurn("1 + 1 = 2", 1);
        costsOfFirstTurn("1 < 2 and 2 < 1", 0);
        costsOfFirstTurn("0 - 5 or 0", 1);
        costsOfFirstTurn("0 - 5", 0);
        costsOfFirstTurn("999", 999);
        costsOfFirstTurn("1000", 999);
        costsOfFirstTurn("0 - 5 + 9", 4);
        // Wrapped these are 4172747 and -2095407274.
        costsOfFirstTurn("9999 * 9999 * 43 - 417 * 9999 - 3157", 7);
        costsOfFirstTurn("9999 * 9999 * 22", 0);
        CellarTurns full = Told.cellar(TWO + "costs " + "1+".repeat(480) + "1;");
        full.turn(0, 1);
        due("as long as the tape", full.count(6), 481);
        CellarTurns x = Told.cellar(THREE + "been a b;");
        x.turn(0, 2);
        due("without costs: wrong", x.count(6), 2);
        x.turn(1, 2);
        due("and again", x.count(6), 5);
    }

    private static void eveningFault(String text, int kind, int place) {
        CellarTurns x = Told.cellar(THREE + "new n price 5;");
        Told.feed(x, "turn a b;");
        x.evening();
        Told.feed(x, text);
        due("evening " + text, x.evening(), kind + 16 * place);
        due("taken", x.count(12), 0);
        if (kind != 0) {
            due("lines stay", x.count(9), 1);
        }
    }

    private static void lastOfEveningIsWrong(String text, String token, int kind) {
        eveningFault(text + token, kind, text.length());
        eveningFault(text + token + " ?", kind, text.length());
    }

    private static void evening() {
        eveningFault("", 0, 0);
        eveningFault("turn a n; round n b c;\nfetch n;", 0, 0);
        lastOfEveningIsWrong("", "person", 1);
        lastOfEveningIsWrong("", "a", 1);
        lastOfEveningIsWrong("turn ", "turn", 1);
        lastOfEveningIsWrong("turn ", "z", 2);
        lastOfEveningIsWrong("turn a ", "z", 2);
        lastOfEveningIsWrong("turn a ", "a", 3);
        lastOfEveningIsWrong("turn a ", ";", 1);
        lastOfEveningIsWrong("turn a b ", "c", 1);
        lastOfEveningIsWrong("round a ", "a", 3);
        lastOfEveningIsWrong("round a b ", "a", 3);
        lastOfEveningIsWrong("round a b ", "b", 3);
        lastOfEveningIsWrong("round a b ", ";", 1);
        lastOfEveningIsWrong("round a b ", "z", 2);
        lastOfEveningIsWrong("fetch ", "a", 2);
        lastOfEveningIsWrong("fetch ", "z", 2);
        lastOfEveningIsWrong("fetch ", ";", 1);
        lastOfEveningIsWrong("fetch n ", "n", 1);
        eveningFault("fetch n", 1, 7);
        String thirty = "turn a b;".repeat(30);
        eveningFault(thirty, 0, 0);
        lastOfEveningIsWrong(thirty, "turn", 5);
        lastOfEveningIsWrong(thirty, "round", 5);
        lastOfEveningIsWrong(thirty, "fetch", 5);
        lastOfEveningIsWrong(thirty, "ring", 1);
        CellarTurns x = Told.cellar(THREE);
        Told.feed(x, thirty);
        x.evening();
        due("thirty lines", x.count(9), 30);
        due("an evening is only told", x.count(3), 0);
        x.evening();
        due("an empty one is one, too", x.count(9), 0);
    }

    private static void body() {
        CellarTurns x = Told.cellar("person a shy; new n price 12; person c cat; ring a c;");
        int[][] want = {{2, 0, 0, 1, 2, 0, 1, NONE}, {0, 1, 12, 0, 1, 0, 0, NONE}, {3, 0, 0, 1, 0, 0, 0, NONE}};
        for (int b = 0; b < 3; b++) {
            for (int w = 0; w < 8; w++) {
                due("body " + b + " " + w, x.body(b, w), want[b][w]);
            }
            due("body " + b + " -1", x.body(b, -1), NONE);
        }
        x.fetch(1);
        x.turn(0, 1);
        due("there", x.body(1, 3), 1);
        due("mind", x.body(1, 4), 2);
        due("sat", x.body(1, 5), 1);
        due("wrong", x.body(1, 6), 1);
        for (int b : new int[] {-1, 3, 8, MOST, LEAST}) {
            due("body " + b, x.body(b, 0), NONE);
        }
    }

    private static void mind() {
        CellarTurns x = Told.cellar(THREE + "new n price 1; ring c a b;");
        due("c's is in a", x.mind(2), 0);
        due("a's is in b", x.mind(0), 1);
        due("b's is in c", x.mind(1), 2);
        due("a new one's is its own", x.mind(3), 3);
        for (int m : new int[] {-1, 4, MOST, LEAST}) {
            due("mind " + m, x.mind(m), NONE);
        }
    }

    private static void may() {
        CellarTurns x = Told.cellar(FOUR + "person i ill; person s shy; new n price 1; been a b; bar b c; often 3;");
        due("two", x.may(0, 2), true);
        due("either way", x.may(2, 0), true);
        due("been", x.may(1, 0), false);
        due("bar", x.may(1, 2), false);
        due("bar, the other way", x.may(2, 1), false);
        due("ill", x.may(0, 4), false);
        due("not there", x.may(0, 6), false);
        due("the same", x.may(0, 0), false);
        for (int b : new int[] {-1, 7, 8, 32, MOST, LEAST}) {
            due("may 0 " + b, x.may(0, b), false);
            due("may " + b + " 0", x.may(b, 0), false);
        }
        x.turn(5, 0);
        due("shy once", x.may(5, 1), true);
        x.turn(5, 1);
        due("shy twice", x.may(5, 2), false);
        x.turn(0, 2);
        due("a has sat twice", x.may(0, 3), true);
        x.turn(0, 3);
        x.fetch(6);
        due("a has sat three times", x.may(0, 6), false);
        due("a new one there", x.may(6, 3), true);
        CellarTurns y = Told.cellar("person a shy; person b plain; person c plain; often 1;");
        y.turn(0, 1);
        due("often 1 binds the shy, too", y.may(0, 2), false);
    }

    private static void turn() {
        CellarTurns x = Told.cellar(THREE + "person k cat; ring a b; costs met * 10 + turns;");
        due("turn", x.turn(2, 1), 3);
        due("c has a's", x.body(2, 4), 0);
        due("b has c's", x.body(1, 4), 2);
        due("never again", x.turn(1, 2), NONE);
        due("a cat is never wrong", x.turn(2, 3), 3);
        due("the cat has a's", x.body(3, 4), 0);
        due("costs", x.count(6), 11);
        due("turns", x.count(3), 2);
        due("pairs", x.count(4), 2);
        due("sat", x.body(2, 5), 2);
        for (int b : new int[] {-1, 0, 4, MOST, LEAST}) {
            due("turn 0 " + b, x.turn(0, b), NONE);
        }
        due("nothing was done", x.count(3), 2);
    }

    private static void round() {
        CellarTurns x = Told.cellar(FOUR + "costs 100 * met + 10 * turns + wrong;");
        due("round", x.round(2, 0, 1), 3);
        due("c's in a", x.body(0, 4), 2);
        due("a's in b", x.body(1, 4), 0);
        due("b's in c", x.body(2, 4), 1);
        due("one turn", x.count(3), 1);
        due("three pairs", x.count(4), 3);
        due("each sat twice", x.body(0, 5) + x.body(1, 5) + x.body(2, 5), 6);
        due("d not", x.body(3, 5), 0);
        due("costs", x.count(6), 3);
        due("turn", x.turn(0, 3), 4);
        due("costs", x.count(6), 3 + 314);
        due("pairs have been", x.round(0, 1, 3), NONE);
        for (int b : new int[] {-1, 4, MOST, LEAST}) {
            due("round " + b, x.round(1, 3, b), NONE);
        }
        CellarTurns o = Told.cellar(THREE + "often 1;");
        due("often 1", o.round(0, 1, 2), NONE);
        CellarTurns p = Told.cellar(FOUR + "often 2;");
        p.turn(0, 3);
        due("a sat once of two", p.round(0, 1, 2), NONE);
        due("nothing done", p.count(3), 1);
    }

    private static void fetch() {
        CellarTurns x = Told.cellar(TWO + "new n price 40; new m price 2;");
        due("fetch", x.fetch(2), true);
        due("again", x.fetch(2), false);
        due("a person", x.fetch(0), false);
        for (int b : new int[] {-1, 4, 8, 34, MOST, LEAST}) {
            due("fetch " + b, x.fetch(b), false);
        }
        due("costs", x.count(6), 40);
        due("no turn", x.count(3), 0);
        due("there", x.count(2), 3);
        due("the other one", x.fetch(3), true);
        due("costs of both", x.count(6), 42);
    }

    private static void undo() {
        CellarTurns x = Told.cellar(SIX + "new n price 5;");
        due("nothing", x.undo(), false);
        x.turn(0, 1);
        x.round(2, 3, 4);
        x.fetch(6);
        x.see(0, 1);
        due("three", x.count(11), 3);
        due("what can't be is not kept", x.turn(0, 1), NONE);
        due("still three", x.count(11), 3);
        due("undo fetch", x.undo(), true);
        due("not there", x.body(6, 3), 0);
        due("cost", x.count(6), 2 + 5);
        due("undo round", x.undo(), true);
        due("c at home", x.body(2, 4), 2);
        due("sat", x.body(2, 5), 0);
        due("may again", x.may(2, 3), true);
        due("undo turn", x.undo(), true);
        due("none wrong", x.count(5), 0);
        due("no turn", x.count(3), 0);
        due("no cost", x.count(6), 0);
        due("nothing left", x.undo(), false);
        due("seen stays", x.count(10), 1);
        int made = 0;
        for (int i = 0; i < 6; i++) {
            for (int j = i + 1; j < 6; j++) {
                made += x.turn(i, j) == NONE ? 0 : 1;
            }
        }
        due("fifteen", made, 15);
        x.fetch(6);
        due("sixteen", x.count(11), 16);
        x.turn(0, 6);
        due("sixteen at most", x.count(11), 16);
        for (int i = 0; i < 16; i++) {
            due("undo " + i, x.undo(), true);
        }
        due("no more", x.undo(), false);
        due("the first turn stands", x.count(3), 1);
    }

    private static void judged() {
        CellarTurns x = Told.cellar(FOUR + "new n price 30; ring a b; been a b;");
        Told.feed(x, "turn a c; turn c a; turn a n; fetch n; fetch n; turn a n; round b c d;");
        x.evening();
        // a c: c b a d (3 wrong); a n: n has c's; then the round b c d.
        due("first that can't be", x.judged(0), 1);
        due("wrong at last", x.judged(1), 5);
        due("costs", x.judged(2), 3 + 30 + 4 + 5);
        x.turn(0, 3);
        x.fetch(4);
        due("from the begin", x.judged(0), 1);
        due("from the begin", x.judged(2), 42);
        due("nothing was played", x.count(3), 1);
        for (int w : new int[] {-1, 3, MOST, LEAST}) {
            due("judged " + w, x.judged(w), -2);
        }
        Told.feed(x, "fetch n; turn n a;");
        x.evening();
        due("all can", x.judged(0), NONE);
        x.evening();
        due("an empty one", x.judged(1), 2);
    }

    private static void rings() {
        CellarTurns x = Told.cellar(SIX + "ring a c e; ring b f;");
        due("two", x.rings(0), 2);
        due("longest", x.rings(1), 3);
        due("odd", x.rings(2), 1);
        for (int w : new int[] {-1, 3, MOST, LEAST}) {
            due("rings " + w, x.rings(w), NONE);
        }
        CellarTurns cats = Told.cellar("person a cat; person b cat; person c plain; ring a b;");
        due("cats, too", cats.rings(0), 1);
        due("of two", cats.rings(1), 2);
        due("though none is wrong", cats.count(5), 0);
        due("none", Told.cellar(SIX).rings(1), 0);
    }

    private static void left() {
        CellarTurns x = Told.cellar(FOUR + "person i ill; new n price 1; been a b; bar c d; often 2;");
        due("six less two", x.left(), 4);
        x.fetch(5);
        due("four more", x.left(), 8);
        x.turn(0, 2);
        due("one less", x.left(), 7);
        x.turn(0, 3);
        due("a has sat twice", x.left(), 5);
    }

    private static void enoughAndHome() {
        CellarTurns x = Told.cellar(SIX + "ring a c b e; ring d f;");
        // In a is e's, in e is b's, in b is c's, in c is a's: from a by e, b, c. In d is f's.
        int[] want = {80, 84, 81, 92, 82, 90, 83, 95, 85, 93};
        due("how many", x.enough(NONE), want.length);
        for (int i = 0; i < want.length; i++) {
            due("enough " + i, x.enough(i), want[i]);
        }
        for (int w : new int[] {-2, 10, MOST, LEAST}) {
            due("enough " + w, x.enough(w), -2);
        }
        int[] home = {6, 3, 5, 10, 2, 9};
        for (int b = 0; b < 6; b++) {
            due("home " + b, x.home(b), home[b]);
        }
        for (int b : new int[] {-1, 6, 8, MOST, LEAST}) {
            due("home " + b, x.home(b), NONE);
        }
        CellarTurns odd = Told.cellar(TWO + "new n price 1; person i ill; bar a b; often 1; ring b a;");
        due("one ring of two", odd.enough(NONE), 5);
        due("X with Y at last", odd.enough(4), 89);
        due("at home", odd.home(3), 0);
        due("a new one", odd.home(2), 0);
        due("b", odd.home(1), 3);
        CellarTurns none = Told.cellar(SIX);
        due("none", none.enough(NONE), 0);
        due("none is odd of none", none.enough(0), -2);
    }

    private static void met() {
        CellarTurns x = Told.cellar(FOUR + "new n price 1; been d a;");
        x.turn(0, 2);
        due("a", x.met(0), 8 + 4);
        due("b", x.met(1), 0);
        due("d", x.met(3), 1);
        due("n", x.met(4), 0);
        for (int b : new int[] {-1, 5, 8, MOST, LEAST}) {
            due("met " + b, x.met(b), NONE);
        }
    }

    private static void ready() {
        CellarTurns x = Told.cellar(FOUR + "person s shy; person i ill; new n price 1; bar c d; often 3;");
        due("three", x.ready(0, 1, 2), true);
        due("any order", x.ready(2, 0, 1), true);
        due("bar", x.ready(0, 2, 3), false);
        due("twice the same", x.ready(0, 0, 1), false);
        due("first and last the same", x.ready(0, 1, 0), false);
        due("ill", x.ready(0, 1, 5), false);
        due("not there", x.ready(0, 1, 6), false);
        due("shy", x.ready(0, 1, 4), true);
        x.turn(4, 3);
        due("shy that has sat", x.ready(0, 1, 4), false);
        x.turn(0, 3);
        due("sat once of three", x.ready(0, 1, 2), true);
        x.fetch(6);
        x.turn(0, 6);
        due("sat twice of three", x.ready(0, 1, 2), false);
        due("though they may", x.may(0, 1) && x.may(0, 2), true);
        for (int b : new int[] {-1, 7, 8, MOST, LEAST}) {
            due("ready " + b, x.ready(1, 2, b), false);
        }
    }

    private static void best() {
        CellarTurns x = Told.cellar(FOUR + "ring a c; ring b d;");
        due("the first of equal ones", x.best(), 2);
        x.turn(0, 2);
        due("then the other", x.best(), 8 + 3);
        x.turn(1, 3);
        due("one must be", x.best(), 1);
        due("none can", Told.cellar("person a plain; person b ill; ring a b;").best(), NONE);
        StringBuilder bars = new StringBuilder();
        for (char one = 'a'; one <= 'f'; one++) {
            for (char other = (char) (one + 1); other <= 'f'; other++) {
                bars.append("bar ").append(one).append(' ').append(other).append(';');
            }
        }
        CellarTurns eight = Told.cellar(SIX + "new g price 1; new h price 1; ring a b c d e f;" + bars);
        eight.fetch(6);
        eight.fetch(7);
        eight.turn(5, 6);
        due("all eight are wrong", eight.turn(4, 7), 8);
        // g has e's, h has d's: with e or with d one comes home.
        due("seven then", eight.best(), 8 * 3 + 7);
    }

    private static void most() {
        CellarTurns x = Told.cellar("person a plain; person b plain; person k cat; ring a b;");
        due("now", x.most(0), 2);
        due("behind one", x.most(1), 2);
        CellarTurns y = Told.cellar(SIX);
        due("two", y.most(1), 2);
        due("four", y.most(2), 4);
        due("six", y.most(3), 6);
        CellarTurns z = Told.cellar(TWO);
        due("one can be", z.most(1), 2);
        due("not two", z.most(2), NONE);
        for (int t : new int[] {-1, 4, MOST, LEAST}) {
            due("most " + t, y.most(t), NONE);
        }
    }

    private static void fewest() {
        CellarTurns x = Told.cellar(THREE + "ring a b c;");
        // In a is c's, in b is a's, in c is b's.
        due("two", x.fewest(5, 0), 2);
        due("first", x.fewest(5, 1), 1);
        due("second", x.fewest(5, 2), 8 + 2);
        due("no third", x.fewest(5, 3), NONE);
        due("not by one", x.fewest(1, 0), NONE);
        due("just by two", x.fewest(2, 0), 2);
        for (int t : new int[] {-1, 6, MOST, LEAST}) {
            due("fewest " + t, x.fewest(t, 0), NONE);
            due("what " + t, x.fewest(5, t), NONE);
        }
        due("none wrong", Told.cellar(THREE).fewest(0, 0), 0);
        CellarTurns been = Told.cellar(TWO + "been a b; ring a b;");
        due("by none", been.fewest(5, 0), NONE);
        CellarTurns four = Told.cellar(FOUR + "been a b; ring a b;");
        due("the two that are there are enough", four.fewest(5, 0), 5);
        due("by at most five", four.fewest(4, 0), NONE);
        due("the first row", four.fewest(5, 1), 2);
        CellarTurns cats = Told.cellar(TWO + "person k cat; person l cat; been a b; ring a b;");
        // Cats need not be home: a k, b k, k l, a l leave only them in each other.
        int[] row = {4, 2, 8 + 2, 16 + 3, 3, NONE};
        for (int w = 0; w < row.length; w++) {
            due("cats " + w, cats.fewest(5, w), row[w]);
        }
        due("one cat is not enough", Told.cellar(TWO + "person k cat; been a b; ring a b;").fewest(5, 0), NONE);
        due("an ill one stays wrong", Told.cellar("person a plain; person b ill; ring a b;").fewest(5, 0), NONE);
    }

    private static void which() {
        String muddle = THREE + "been a b; ring a b;";
        CellarTurns x = Told.cellar(muddle + "new n price 9; new m price 3;");
        due("not without", x.fewest(5, 0), NONE);
        due("the cheaper", x.which(5), 4);
        due("not by four", x.which(4), NONE);
        x.fetch(4);
        due("the one not there", x.which(5), 3);
        x.fetch(3);
        due("nobody is left", x.which(5), NONE);
        due("of equal ones the first", Told.cellar(muddle + "new n price 3; new m price 3;").which(5), 3);
        due("nobody needed", Told.cellar(TWO + "new n price 1;").which(0), 2);
        due("nobody can", Told.cellar(TWO + "been a b; ring a b; new n price 1;").which(5), NONE);
        for (int t : new int[] {-1, 6, MOST, LEAST}) {
            due("which " + t, x.which(t), NONE);
        }
        due("nothing was fetched", Told.cellar(muddle + "new n price 3;").count(2), 3);
    }

    private static void least() {
        CellarTurns x = Told.cellar(FOUR + "person i ill; ring a b c d i;");
        // In a is i's, in i is d's: both stay wrong, and who has a's can still come home.
        due("wrong now", x.least(0, 0), 5);
        due("no turn", x.least(0, 1), 0);
        due("no row", x.least(0, 2), NONE);
        due("by one", x.least(1, 0), 4);
        due("one", x.least(1, 1), 1);
        due("the first", x.least(1, 2), 1);
        due("only three can be", x.least(4, 0), 2);
        due("by three", x.least(4, 1), 3);
        due("no fourth", x.least(4, 5), NONE);
        for (int t : new int[] {-1, 5, MOST, LEAST}) {
            due("least " + t, x.least(t, 0), NONE);
        }
        for (int w : new int[] {-1, 6, MOST, LEAST}) {
            due("least what " + w, x.least(4, w), NONE);
        }
        CellarTurns none = Told.cellar(THREE);
        due("none wrong", none.least(4, 0), 0);
        due("by none", none.least(4, 1), 0);
    }

    private static void cheap() {
        String muddle = FOUR + "ring a b;";
        CellarTurns x = Told.cellar(muddle);
        due("one turn", x.cheap(5, 1), 1);
        due("costs nothing", x.cheap(5, 0), 0);
        due("it", x.cheap(5, 2), 1);
        CellarTurns y = Told.cellar(muddle + "costs 100 * (turns = 0 and wrong = 0) + 2;");
        // Not the first turn may leave none wrong: then three are needed, or five.
        due("three turns", y.cheap(5, 1), 3);
        due("of two each", y.cheap(5, 0), 6);
        due("not by two but by one", y.cheap(2, 0), 102);
        due("a c", y.cheap(3, 2), 2);
        due("a b", y.cheap(3, 3), 1);
        due("b c", y.cheap(3, 4), 8 + 2);
        due("no fourth", y.cheap(5, 5), NONE);
        due("costs so far are aside", costsAside(), 2);
        CellarTurns five = Told.cellar(SIX + "ring a b c; ring d e; costs wrong * 5 + met * 2;");
        // d e first leaves 3, 2, 0 wrong, behind 0, 1, 2 pairs.
        due("d e first", five.cheap(3, 2), 8 * 3 + 4);
        due("and that costs", five.cheap(3, 0), 25 + 6);
        CellarTurns all = Told.cellar(FOUR + "been a b; ring a b;");
        due("five turns", all.cheap(5, 1), 5);
        due("the fifth", all.cheap(5, 6) != NONE, true);
        due("none wrong", Told.cellar(FOUR).cheap(5, 0), 0);
        due("by none", Told.cellar(TWO + "been a b; ring a b;").cheap(5, 0), NONE);
        for (int t : new int[] {-1, 6, MOST, LEAST}) {
            due("cheap " + t, x.cheap(t, 0), NONE);
            due("cheap what " + t, x.cheap(0, t), NONE);
        }
    }

    private static int costsAside() {
        CellarTurns x = Told.cellar(FOUR + "new n price 500; ring a b; costs 2;");
        x.fetch(4);
        return x.cheap(5, 0);
    }

    private static void muddles() {
        CellarTurns x = Told.cellar(FOUR);
        due("now", x.muddles(0), 1);
        due("six pairs", x.muddles(1), 6);
        due("eight threes and three twos of two", x.muddles(2), 11);
        for (int t : new int[] {-1, 3, MOST, LEAST}) {
            due("muddles " + t, x.muddles(t), NONE);
        }
        due("none can", Told.cellar(TWO).muddles(2), 0);
        CellarTurns eight = Told.cellar(SIX + "new g price 0; new h price 0;");
        eight.fetch(6);
        eight.fetch(7);
        due("112 threes and 210 twos of two", eight.muddles(2), 112 + 210);
    }

    private static void chance() {
        CellarTurns x = Told.cellar(THREE + "ring a b;");
        due("now", x.chance(0), 0);
        due("a third, cut", x.chance(1), 333333);
        due("nothing to be done with two", x.chance(2), 0);
        // Three turns use each pair once, and come to the middle one: a b in two of six rows, 166666 each.
        due("by three", x.chance(3), 333332);
        CellarTurns y = Told.cellar(TWO + "ring a b;");
        due("nothing more if none may", y.chance(3), 1000000);
        CellarTurns z = Told.cellar(FOUR);
        due("two of the first five are never it", z.chance(2), 0);
        due("at home", z.chance(0), 1000000);
        for (int t : new int[] {-1, 4, MOST, LEAST}) {
            due("chance " + t, x.chance(t), NONE);
        }
        CellarTurns two = Told.cellar(FOUR + "ring a b; ring c d;");
        // 1000000 / 6 / 5 is 33333, by a b then c d, and by c d then a b.
        due("shared out twice", two.chance(2), 66666);
    }

    private static void see() {
        CellarTurns x = Told.cellar(THREE + "new n price 1;");
        for (int b : new int[] {-1, 4, 8, MOST, LEAST}) {
            due("see " + b, x.see(b, 0), false);
            due("see mind " + b, x.see(0, b), false);
        }
        for (int i = 0; i < 8; i++) {
            due("see no " + i, x.see(i % 4, i % 3), true);
            due("seen", x.count(10), i + 1);
        }
        due("eight at most", x.see(0, 0), false);
        due("eight", x.count(10), 8);
    }

    private static int pairOf(CellarTurns x, int turns, int one, int other) {
        try {
            return x.pair(turns, one, other);
        } catch (NoSuchElementException e) {
            return -99;
        }
    }

    private static void rowsAndPair() {
        CellarTurns x = Told.cellar(FOUR + "new n price 1;");
        due("six", x.rows(1), 6);
        due("thirty", x.rows(2), 30);
        due("a hundred and twenty", x.rows(3), 120);
        due("in some", pairOf(x, 1, 3, 0), 1);
        x.see(0, 1);
        // b's gets into a by a b ahead of c d, b c or b d, by a b behind c d, a c or a d, by c or by d.
        due("one row of one", x.rows(1), 1);
        due("in all", pairOf(x, 1, 1, 0), 2);
        due("in none", pairOf(x, 1, 0, 2), 0);
        due("told, not there", pairOf(x, 1, 0, 4), 0);
        due("rows of two", x.rows(2), 8);
        x.see(1, 0);
        due("a b and c d, either first", x.rows(2), 2);
        due("in all", pairOf(x, 2, 3, 2), 2);
        x.see(0, 0);
        due("both can't be", x.rows(2), 0);
        due("no row", pairOf(x, 2, 0, 1), -99);
        for (int t : new int[] {-1, 0, 4, MOST, LEAST}) {
            due("rows " + t, x.rows(t), NONE);
        }
        CellarTurns y = Told.cellar(FOUR);
        for (int t : new int[] {-1, 0, 4, MOST, LEAST}) {
            due("pair turns " + t, pairOf(y, t, 0, 1), -99);
        }
        for (int b : new int[] {-1, 4, 8, MOST, LEAST, 0}) {
            due("pair one " + b, pairOf(y, 1, b, 0), -99);
            due("pair other " + b, pairOf(y, 1, 0, b), -99);
        }
        due("nobody may", pairOf(Told.cellar("person a ill; person b ill;"), 1, 0, 1), -99);
    }

    private static void look() {
        CellarTurns x = Told.cellar(THREE + "person i ill;");
        // Behind one turn each of three has another's twice, his own once: at most one row each.
        due("the first of equal ones", x.look(1), 0);
        x.see(0, 0);
        due("one row is not parted", x.look(1), NONE);
        for (int t : new int[] {-1, 0, 4, MOST, LEAST}) {
            due("look " + t, x.look(t), NONE);
        }
        CellarTurns y = Told.cellar(FOUR + "bar a b; bar a c; bar a d;");
        due("a is in no row", y.look(1), 1);
        CellarTurns z = Told.cellar("person a plain; person b plain; person c plain; bar a b;");
        // Rows a c, b c: a and b have their own in one of two; c never has the same.
        due("a parts them", z.look(1), 0);
        due("no row", Told.cellar(TWO).look(2), NONE);
    }

    private static void evenings() {
        CellarTurns x = Told.cellar(TWO + "ring a b; costs 7;");
        // Each evening has one turn, which undoes all.
        due("none wrong", x.evenings(5, 50, 0), 0);
        due("all evenings", x.evenings(5, 50, 1), 50);
        due("costs", x.evenings(5, 50, 2), 350);
        due("all is as ahead", x.count(3), 0);
        due("all is as ahead", x.count(5), 2);
        CellarTurns y = Told.cellar(THREE + "costs 100 * (turns = 0) * (wrong = 2) + turns * 0;");
        due("three turns leave three wrong or two", y.evenings(0, 1, 0) >= 2, true);
        // Of SEED 1: 1103527590, 16838 below 3 is 2 (b c); 377401575, 5758 below 2 is 0 (a b); then a c.
        CellarTurns z = Told.cellar(THREE);
        due("wrong behind b c, a b, a c", z.evenings(1, 1, 0), wrongBehind(THREE, 1, 2, 0, 1, 0, 2));
        due("costs of b c, a b, a c", z.evenings(1, 1, 2), costBehind(THREE, 1, 2, 0, 1, 0, 2));
        for (int s : new int[] {-1, 10000, MOST, LEAST}) {
            due("seed " + s, x.evenings(s, 1, 0), NONE);
        }
        for (int m : new int[] {0, 51, MOST, LEAST}) {
            due("many " + m, x.evenings(0, m, 0), NONE);
        }
        for (int w : new int[] {-1, 3, MOST, LEAST}) {
            due("what " + w, x.evenings(0, 1, w), NONE);
        }
        due("edges", x.evenings(9999, 50, 1), 50);
    }

    private static CellarTurns played(String text, int... bodies) {
        CellarTurns x = Told.cellar(text);
        for (int i = 0; i + 1 < bodies.length; i += 2) {
            x.turn(bodies[i], bodies[i + 1]);
        }
        return x;
    }

    private static int wrongBehind(String text, int... bodies) {
        return played(text, bodies).count(5);
    }

    private static int costBehind(String text, int... bodies) {
        return played(text, bodies).count(6);
    }

    private static void mark() {
        CellarTurns x = Told.cellar(THREE + "new n price 4; ring a b;");
        for (int m : new int[] {-1, 4, MOST, LEAST}) {
            due("mark " + m, x.mark(m, false), false);
            due("back to " + m, x.mark(m, true), false);
        }
        due("nothing is on it", x.mark(3, true), false);
        x.turn(0, 2);
        x.see(0, 2);
        due("laid", x.mark(3, false), true);
        x.fetch(3);
        x.turn(1, 3);
        x.see(1, 1);
        due("others are not", x.mark(0, true), false);
        due("undo is there", x.count(11), 3);
        due("back", x.mark(3, true), true);
        int[] want = {4, 1, 3, 1, 1, 3, 3, 9, 0, 0, 1, 0, 0};
        for (int i = 0; i < want.length; i++) {
            due("back: count " + i, x.count(i), want[i]);
        }
        due("back: sat", x.body(1, 5), 0);
        due("back: may", x.may(0, 2), false);
        due("nothing can be undone", x.undo(), false);
        x.turn(1, 2);
        due("undo again", x.undo(), true);
        due("back again", x.mark(3, true), true);
        due("laid anew", x.mark(3, false), true);
    }

    private static void count() {
        CellarTurns x = Told.cellar(FOUR + "new n price 4; ring a b; been a b; bar c d; bar a d; often 5;");
        Told.feed(x, "turn a b;");
        x.evening();
        x.turn(0, 2);
        x.fetch(4);
        x.see(0, 0);
        x.feed(0x2020000000000000L, 0, 0);
        int[] want = {5, 1, 5, 1, 2, 3, 7, 5, 2, 1, 1, 2, 2};
        for (int i = 0; i < want.length; i++) {
            due("count " + i, x.count(i), want[i]);
        }
        for (int w : new int[] {-1, 13, MOST, LEAST}) {
            due("count " + w, x.count(w), NONE);
        }
    }
}
