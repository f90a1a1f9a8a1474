import java.util.NoSuchElementException;

/** Promises 1 to 4: each sentence that names a boundary of the TAPE, of a CELLAR and of an EVENING. */
public final class BoundariesOfReadingTest {
    private static final int NONE = CellarTurns.NONE;
    private static final String RESERVED =
            "person new price ring been bar often costs turn round fetch plain ill shy cat not and or";
    private static final long BLANKS = 0x2020202020202020L;

    private BoundariesOfReadingTest() {
    }

    public static void main(String[] args) {
        nobodyIsThere();
        nobodyCanDoAnything();
        nobodyIsAtHome();
        objectsHaveNothingInCommon();
        lastCallCounts();
        whichSignsFit();
        whereSignsCome();
        leftOutSignsTakeNoPlace();
        thousandSigns();
        howManyThereAre();
        readingTakesTheTape();
        wordsOfEightLetters();
        numbersOfFourDigits();
        signsThatAreNone();
        blanksBetween();
        endOfTheText();
        firstWrongToken();
        sixPeople();
        kindsOfPeople();
        twoNewOnes();
        prices();
        numberedAsTold();
        namesAlike();
        wordsThatAreNoNames();
        sizeOfRings();
        ringsOfPeopleTold();
        oneRingEach();
        wayRoundARing();
        pairsOfPeopleTold();
        pairsOnce();
        often();
        oftenOnce();
        costsOnce();
        nothingElseInACellar();
        partsOfALaw();
        oneComparison();
        fiveOthers();
        lawFromTheLeft();
        lawGivesOneOrZero();
        lawWraps();
        withoutCosts();
        factsOfALaw();
        faultKeepsAll();
        newCellarKeepsNothing();
        eachTextIsReadAnew();
        thirtyLines();
        bodiesOfAnEvening();
        notTheSameInALine();
        newOnesOfFetch();
        eveningsAreReplaced();
        eveningOfNobody();
        Due.close(1, 4);
    }

    private static void cellarFault(String text, int kind, int place) {
        CellarTurns x = new CellarTurns();
        Told.feed(x, text);
        Due.is("cellar " + text, x.cellar(), kind + 16 * place);
    }

    /** The token behind the text is the wrong one, whatever follows it. */
    private static void wrongBehind(String text, String token, int kind) {
        cellarFault(text + token, kind, text.length());
        cellarFault(text + token + " ? person", kind, text.length());
    }

    private static void right(String text) {
        cellarFault(text, 0, 0);
    }

    // Promise 1

    private static void nobodyIsThere() {
        Due.by(1, "At first: nobody");
        CellarTurns x = new CellarTurns();
        for (int what = 0; what <= 12; what++) {
            Due.is("count " + what, x.count(what), what == 7 ? 9 : 0);
        }
        for (int what = 0; what <= 6; what++) {
            Due.is("body 0 " + what, x.body(0, what), NONE);
        }
        Due.is("mind 0", x.mind(0), NONE);
        Due.is("home 0", x.home(0), NONE);
        Due.is("met 0", x.met(0), NONE);
    }

    private static void nobodyCanDoAnything() {
        Due.by(1, "Nobody: no call that is refused does a thing");
        CellarTurns x = new CellarTurns();
        Due.is("may", x.may(0, 1), false);
        Due.is("turn", x.turn(0, 1), NONE);
        Due.is("round", x.round(0, 1, 2), NONE);
        Due.is("ready", x.ready(0, 1, 2), false);
        Due.is("fetch", x.fetch(0), false);
        Due.is("undo", x.undo(), false);
        Due.is("see", x.see(0, 0), false);
        Due.is("left", x.left(), 0);
        Due.is("best", x.best(), NONE);
        Due.is("which", x.which(5), NONE);
        Due.is("look", x.look(1), NONE);
        Due.is("rows", x.rows(3), 0);
        Due.is("back", x.mark(0, true), false);
        Due.is("turns", x.count(3), 0);
        Due.is("pair", pairThrows(x), true);
    }

    private static boolean pairThrows(CellarTurns x) {
        try {
            x.pair(1, 0, 1);
            return false;
        } catch (NoSuchElementException e) {
            return true;
        }
    }

    private static void nobodyIsAtHome() {
        Due.by(1, "Nobody: none is WRONG, without a turn");
        CellarTurns x = new CellarTurns();
        Due.is("judged 0", x.judged(0), NONE);
        Due.is("judged 1", x.judged(1), 0);
        Due.is("judged 2", x.judged(2), 0);
        Due.is("rings 0", x.rings(0), 0);
        Due.is("rings 1", x.rings(1), 0);
        Due.is("rings 2", x.rings(2), 0);
        Due.is("enough", x.enough(NONE), 0);
        Due.is("enough 0", x.enough(0), -2);
        Due.is("most 0", x.most(0), 0);
        Due.is("most 1", x.most(1), NONE);
        Due.is("fewest", x.fewest(0, 0), 0);
        Due.is("fewest, a turn", x.fewest(5, 1), NONE);
        Due.is("least 0", x.least(4, 0), 0);
        Due.is("least 1", x.least(4, 1), 0);
        Due.is("least 2", x.least(4, 2), NONE);
        Due.is("cheap 0", x.cheap(5, 0), 0);
        Due.is("cheap 1", x.cheap(5, 1), 0);
        Due.is("cheap 2", x.cheap(5, 2), NONE);
        Due.is("muddles 0", x.muddles(0), 1);
        Due.is("muddles 1", x.muddles(1), 0);
        Due.is("chance 0", x.chance(0), 1000000);
        Due.is("chance 3", x.chance(3), 1000000);
        Due.is("evenings 0", x.evenings(7, 50, 0), 0);
        Due.is("evenings 1", x.evenings(7, 50, 1), 50);
        Due.is("evenings 2", x.evenings(7, 50, 2), 0);
    }

    private static void objectsHaveNothingInCommon() {
        Due.by(1, "A new object: nobody, whatever others have");
        CellarTurns x = Told.cellar(Told.SIX + "ring a b; costs 5; often 3;");
        x.turn(0, 1);
        x.mark(0, false);
        Told.feed(x, "turn a b;");
        CellarTurns y = new CellarTurns();
        Due.is("bodies", y.count(0), 0);
        Due.is("signs", y.count(12), 0);
        Due.is("often", y.count(7), 9);
        Due.is("mark", y.mark(0, true), false);
        Told.feed(y, Told.TWO);
        Due.is("cellar", y.cellar(), 0);
        Due.is("costs of another", y.turn(0, 1), 2);
        Due.is("cost", y.count(6), 2);
        Due.is("the first one's", x.count(0), 6);
        Due.is("the first one's signs", x.count(12), 9);
    }

    private static void lastCallCounts() {
        Due.by(1, "An object is used for at most 512 calls after it has been made");
        CellarTurns x = new CellarTurns();
        for (int call = 1; call <= 508; call++) {
            x.feed(BLANKS, 0, 0);
        }
        Due.is("509th", x.cellar(), 0);
        Due.is("510th", x.feed(0x6F6674656E20343BL, 0, 0), 8);
        Due.is("511th", x.cellar(), 0);
        Due.is("512th", x.count(7), 4);
    }

    // Promise 2

    private static void whichSignsFit() {
        Due.by(2, "others than 10 and 32 .. 126 are left out");
        for (int sign = 0; sign <= 255; sign++) {
            int want = sign == 10 || sign >= 32 && sign <= 126 ? 1 : 0;
            Due.is("highest byte " + sign, new CellarTurns().feed((long) sign << 56, 0, 0), want);
            Due.is("lowest byte " + sign, new CellarTurns().feed(0, 0, sign), want);
        }
        Due.is("all bits", new CellarTurns().feed(-1L, -1L, -1L), 0);
        Due.is("the least long", new CellarTurns().feed(Long.MIN_VALUE, Long.MIN_VALUE, Long.MIN_VALUE), 0);
        // 0x7F is 127, and then 255 seven times.
        Due.is("the greatest long", new CellarTurns().feed(Long.MAX_VALUE, Long.MAX_VALUE, Long.MAX_VALUE), 0);
    }

    private static void whereSignsCome() {
        Due.by(2, "the bytes of a, b, c, of each the highest first");
        for (int place = 0; place < 24; place++) {
            long[] parts = {BLANKS, BLANKS, BLANKS};
            int shift = 56 - 8 * (place % 8);
            parts[place / 8] += (long) ('~' - ' ') << shift;
            CellarTurns x = new CellarTurns();
            Due.is("24 signs", x.feed(parts[0], parts[1], parts[2]), 24);
            Due.is("the tilde at " + place, x.cellar(), 1 + 16 * place);
        }
    }

    private static void leftOutSignsTakeNoPlace() {
        Due.by(2, "what is left out takes no place");
        CellarTurns x = new CellarTurns();
        // "of", "te" and "n4;" with bytes that are left out ahead, between and behind.
        Due.is("feed", x.feed(0x006F09661F7F8000L, 0xFF74000000000065L, 0x006E000034003B80L), 7);
        Due.is("cellar", x.cellar(), 0);
        Due.is("often", x.count(7), 4);
    }

    private static CellarTurns withBlanks(int many) {
        CellarTurns x = new CellarTurns();
        for (int i = 0; i < many / 24; i++) {
            x.feed(BLANKS, BLANKS, BLANKS);
        }
        for (int i = 0; i < many % 24; i++) {
            x.feed(32, 0, 0);
        }
        return x;
    }

    private static void thousandSigns() {
        Due.by(2, "what is beyond 1,000 is left out");
        CellarTurns x = withBlanks(999);
        Due.is("999", x.count(12), 999);
        Due.is("two more", x.feed(0x7E7E000000000000L, 0, 0), 1000);
        Due.is("the thousandth is there", x.cellar(), 1 + 16 * 999);
        CellarTurns y = withBlanks(1000);
        Due.is("1,000", y.count(12), 1000);
        Due.is("one more", y.feed(0x7E00000000000000L, 0, 0), 1000);
        Due.is("24 more", y.feed(BLANKS, BLANKS, BLANKS), 1000);
        Due.is("what is no sign", y.feed(0, -1L, 0), 1000);
        Due.is("the next one is not", y.cellar(), 0);
        CellarTurns z = withBlanks(990);
        Due.is("24 where 10 fit", z.feed(BLANKS, 0x20207E7E7E7E7E7EL, 0x7E7E7E7E7E7E7E7EL), 1000);
        Due.is("only those beyond are left out", z.cellar(), 0);
        CellarTurns full = new CellarTurns();
        Told.feed(full, "often 3;" + " ".repeat(983) + "costs 77;");
        Due.is("a full tape", full.count(12), 1000);
        Due.is("is read to its last sign", full.cellar(), 0);
        Told.feed(full, "often 3;" + " ".repeat(984) + "costs 77;");
        Due.is("without the last one", full.cellar(), 1 + 16 * 1000);
    }

    private static void howManyThereAre() {
        Due.by(2, "how many there are");
        CellarTurns x = new CellarTurns();
        Due.is("three", x.feed(0x2020200000000000L, 0, 0), 3);
        Due.is("and two", x.feed(0, 0x0A00000000000000L, 0x0A), 5);
        Due.is("and none", x.feed(0, 0, 0), 5);
        Due.is("count", x.count(12), 5);
        Due.is("up to 24", x.feed(BLANKS, BLANKS, BLANKS), 29);
    }

    private static void readingTakesTheTape() {
        Due.by(3, "what reads it takes it: it is empty then");
        for (int i = 0; i < 2; i++) {
            CellarTurns x = new CellarTurns();
            Told.feed(x, i == 0 ? "often 3;" : "often ?;");
            Due.is("fault", x.cellar(), i == 0 ? 0 : 1 + 16 * 6);
            Due.is("signs behind", x.count(12), 0);
            Due.is("feed begins anew", x.feed(32, 0, 0), 1);
            Due.is("and so does the place", x.cellar(), 0);
        }
        Due.by(4, "what reads it takes it: it is empty then");
        CellarTurns y = Told.cellar(Told.TWO);
        Told.feed(y, "turn a b;");
        Due.is("evening", y.evening(), 0);
        Due.is("signs behind", y.count(12), 0);
        Told.feed(y, "  turn ?");
        Due.is("fault", y.evening(), 1 + 16 * 7);
        Due.is("signs behind a fault", y.count(12), 0);
        Told.feed(y, "turn ?");
        Due.is("its place", y.evening(), 1 + 16 * 5);
        Told.feed(y, "turn a b;");
        Due.is("read as a cellar", y.cellar(), 1);
        Due.is("what one takes the other has not", y.evening(), 0);
        Due.is("an empty evening", y.count(9), 0);
    }

    // Promise 3: tokens

    private static void wordsOfEightLetters() {
        Due.by(3, "WORDS (letters a .. z, 8 at most); a longer WORD is none at its first sign");
        right("person abcdefgh plain;");
        right("person zzzzzzzz plain; person azzzzzzz plain; person a plain;");
        wrongBehind("person ", "abcdefghi", 1);
        wrongBehind("person ", "abcdefghijklmnopqrstuvwxyzabcdefghijklmnopqrstuvwxyz", 1);
        wrongBehind("person abcdefgh plain; ring ", "abcdefghi", 1);
        wrongBehind("person abcdefgh plain; ring ", "abcdefg", 2);
        wrongBehind("", "personpers", 1);
        wrongBehind("person a ", "plainplai", 1);
        wrongBehind("person a", "B", 1);
        wrongBehind("person a", "`", 1);
        wrongBehind("person a", "{", 1);
    }

    private static void numbersOfFourDigits() {
        Due.by(3, "NUMBERS (1 to 4 digits; a letter may stand right behind); a longer one is none at its first sign");
        right("often 9;");
        right("often 09;");
        right("often 009;");
        right("often 0009;");
        wrongBehind("often ", "00009", 1);
        wrongBehind("often ", "99999999999999999999", 1);
        right("costs 9999;");
        wrongBehind("costs ", "10000", 1);
        wrongBehind("costs ", "4294967297", 1);
        right("costs 1and 2or 3;");
        wrongBehind("often 9", "a", 1);
        wrongBehind("person a", "1", 1);
        wrongBehind("costs 1", "/", 1);
        wrongBehind("costs 1", ":", 1);
        CellarTurns x = Told.cellar("new a price 0012;");
        Due.is("noughts ahead", x.body(0, 2), 12);
    }

    private static void signsThatAreNone() {
        Due.by(3, "the signs ( ) < = + - * ;  All else is none");
        String signs = "()<=+-*;";
        for (char sign = 33; sign <= 126; sign++) {
            boolean letter = sign >= 'a' && sign <= 'z';
            boolean digit = sign >= '0' && sign <= '9';
            if (!letter && !digit && signs.indexOf(sign) < 0) {
                wrongBehind("costs 1 ", String.valueOf(sign), 1);
                wrongBehind("costs 1; ", String.valueOf(sign), 1);
            }
        }
        right("costs (1)<2-3*4+5;");
        right("costs 1=2;");
    }

    private static void blanksBetween() {
        Due.by(3, "TOKENS, each as long as can be, blanks (10, 32) between where one likes");
        right("person a plain;new b price 3;costs(1)and(2);often 3;");
        right("\n person\na\n\nplain \n ; \n");
        wrongBehind("", "persona plain;", 1);
        wrongBehind("", "per son a plain;", 1);
        wrongBehind("person a ", "plainperson", 1);
        wrongBehind("costs 1 ", "1", 1);
    }

    private static void endOfTheText() {
        Due.by(3, "the end being one at the text's length");
        right("");
        right(" ");
        right(" \n \n");
        cellarFault("person", 1, 6);
        cellarFault("person ", 1, 7);
        cellarFault("person a", 1, 8);
        cellarFault("person a ill", 1, 12);
        cellarFault("person a ill\n\n", 1, 14);
        cellarFault("new", 1, 3);
        cellarFault("new a", 1, 5);
        cellarFault("new a price", 1, 11);
        cellarFault("new a price 1", 1, 13);
        cellarFault("often", 1, 5);
        cellarFault("often 1", 1, 7);
        cellarFault("costs", 1, 5);
        cellarFault("costs 1", 1, 7);
        cellarFault("costs 1<", 1, 8);
        cellarFault("costs 1+", 1, 8);
        cellarFault("costs 1*", 1, 8);
        cellarFault("costs 1 and", 1, 11);
        cellarFault("costs not", 1, 9);
        cellarFault("costs (1", 1, 8);
        for (String word : new String[] {"ring", "been", "bar"}) {
            String text = Told.TWO + word;
            cellarFault(text, 1, text.length());
            cellarFault(text + " a", 1, text.length() + 2);
            cellarFault(text + " a b", 1, text.length() + 4);
        }
    }

    private static void firstWrongToken() {
        Due.by(3, "of the first token from the left that is wrong the least");
        cellarFault("often 0; person a plain; person a plain;", 4, 6);
        cellarFault("person a plain; person a often 0;", 3, 23);
        cellarFault("ring a b", 2, 5);
        // No seventh PERSON can be told, so a seventh NAME is wrong by less than 5, too.
        wrongBehind(Told.SIX + "ring a b c d e f ", "g", 2);
        wrongBehind(Told.SIX + "ring a b c d e f ", "f", 3);
        wrongBehind(Told.SIX + "new g price 1; ring a b c d e f ", "g", 2);
        wrongBehind(Told.SIX + "ring a b c d e f ", "price", 1);
        // Neither a NAME told nor a NUMBER is asked for here.
        wrongBehind("person a plain; new b ", "a", 1);
        wrongBehind("person a plain; often ", "a", 1);
        wrongBehind("person a ", "1000", 1);
        wrongBehind(Told.SIX + " ", "person", 5);
        wrongBehind(Told.SIX + " ", "persons", 1);
    }

    // Promise 3: lines

    private static void sixPeople() {
        Due.by(3, "person: 6 at most; 5 the word person of a seventh");
        right(Told.SIX);
        right("new g price 1;" + Told.SIX + "new h price 1;");
        wrongBehind(Told.SIX, "person", 5);
        wrongBehind(Told.SIX, "person g plain;", 5);
        wrongBehind(Told.SIX + "new g price 1; new h price 1;", "person", 5);
        wrongBehind(Told.FOUR + "person e plain; ", "persons", 1);
        Due.is("eight in all", Told.cellar(Told.SIX + "new g price 1; new h price 1;").count(0), 8);
    }

    private static void kindsOfPeople() {
        Due.by(3, "KIND: plain, ill, shy, cat");
        CellarTurns x = Told.cellar("person a plain; person b ill; person c shy; person d cat;");
        for (int kind = 0; kind < 4; kind++) {
            Due.is("kind " + kind, x.body(kind, 0), kind);
        }
        for (String token : ("person new price ring been bar often costs turn round fetch not and or "
                + "wrong turns met dog plai plains cats 1 ; (").split(" ")) {
            wrongBehind("person a ", token, 1);
        }
    }

    private static void twoNewOnes() {
        Due.by(3, "new: 2 at most; plain; 5 the word new of a third");
        right("new a price 1; new b price 1;");
        wrongBehind("new a price 1; new b price 1; ", "new", 5);
        wrongBehind("new a price 1; new b price 1; ", "new c price 1;", 5);
        wrongBehind("new a price 1; person c ill; new b price 1; ", "new", 5);
        wrongBehind("new a ", "plain", 1);
        CellarTurns x = Told.cellar("new a price 1; new b price 1;");
        Due.is("plain", x.body(1, 0), 0);
        Due.is("none is there", x.count(2), 0);
    }

    private static void prices() {
        Due.by(3, "new: 0 to 999; 4 a NUMBER that is not as told");
        CellarTurns x = Told.cellar("new a price 0; new b price 999;");
        Due.is("nothing", x.body(0, 2), 0);
        Due.is("most", x.body(1, 2), 999);
        wrongBehind("new a price ", "1000", 4);
        wrongBehind("new a price ", "9999", 4);
        wrongBehind("new a price ", "10000", 1);
        wrongBehind("new a price ", "-1", 1);
        wrongBehind("new a price ", ";", 1);
        wrongBehind("new a price 1", "-", 1);
    }

    private static void numberedAsTold() {
        Due.by(3, "BODIES are numbered as told, PEOPLE and new ones, together");
        CellarTurns x = Told.cellar("new n price 7; person a ill; new m price 8; person b cat;");
        int[] kinds = {0, 1, 0, 3};
        int[] prices = {7, 0, 8, 0};
        for (int body = 0; body < 4; body++) {
            Due.is("kind " + body, x.body(body, 0), kinds[body]);
            Due.is("new " + body, x.body(body, 1), 1 - body % 2);
            Due.is("price " + body, x.body(body, 2), prices[body]);
            Due.is("there " + body, x.body(body, 3), body % 2);
        }
    }

    private static void namesAlike() {
        Due.by(3, "no two are alike; 3 a NAME told already");
        wrongBehind("person a plain; person ", "a", 3);
        wrongBehind("person a plain; new ", "a", 3);
        wrongBehind("new a price 1; new ", "a", 3);
        wrongBehind("new a price 1; person ", "a", 3);
        right("person a plain; person aa plain; new ab price 1; person b plain;");
        right("person abcdefgh plain; person bbcdefgh plain; person abcdefgi plain;");
    }

    private static void wordsThatAreNoNames() {
        Due.by(3, "A NAME is another WORD than person, new, price, .. the KINDS, not, and, or");
        for (String word : RESERVED.split(" ")) {
            wrongBehind("person ", word, 1);
            wrongBehind("new ", word, 1);
            wrongBehind(Told.TWO + "ring ", word, 1);
            wrongBehind(Told.TWO + "ring a b ", word, 1);
            wrongBehind(Told.TWO + "been a ", word, 1);
            wrongBehind(Told.TWO + "bar ", word, 1);
            if (word.length() < 8) {
                right("person " + word + "x plain; new x" + word + " price 1;");
            }
        }
        for (String word : "wrong turns met mind body look evening".split(" ")) {
            right("person " + word + " plain; person b cat; ring b " + word + ";");
        }
        wrongBehind("person ", "1", 1);
        wrongBehind("person ", ";", 1);
    }

    private static void sizeOfRings() {
        Due.by(3, "ring: two to six PEOPLE told");
        wrongBehind(Told.SIX + "ring ", ";", 1);
        wrongBehind(Told.SIX + "ring a ", ";", 1);
        String names = "a b c d e f ";
        for (int many = 2; many <= 6; many++) {
            String text = Told.SIX + "ring " + names.substring(0, 2 * many);
            right(text + ";");
            Due.is("of " + many, Told.cellar(text + ";").rings(1), many);
            wrongBehind(text, "1", 1);
            wrongBehind(text, "ring", 1);
        }
    }

    private static void ringsOfPeopleTold() {
        Due.by(3, "2 a NAME of no PERSON (behind ring) told");
        wrongBehind("ring ", "a", 2);
        wrongBehind(Told.TWO + "ring ", "c", 2);
        wrongBehind(Told.TWO + "ring a ", "c", 2);
        wrongBehind(Told.TWO + "ring a b ", "c", 2);
        wrongBehind(Told.TWO + "new n price 1; ring ", "n", 2);
        wrongBehind(Told.TWO + "new n price 1; ring a ", "n", 2);
        wrongBehind("person a plain; ring a ", "b; person b plain;", 2);
        right("person a plain; person b ill; ring a b; person c cat;");
    }

    private static void oneRingEach() {
        Due.by(3, "each in one ring at most; 3 a PERSON in a ring already");
        right(Told.SIX + "ring a b; ring c d; ring e f;");
        right(Told.SIX + "ring a b c; ring d e f;");
        wrongBehind(Told.SIX + "ring a ", "a", 3);
        wrongBehind(Told.SIX + "ring a b ", "a", 3);
        wrongBehind(Told.SIX + "ring a b ", "b", 3);
        wrongBehind(Told.SIX + "ring a b; ring ", "a", 3);
        wrongBehind(Told.SIX + "ring a b; ring c ", "b", 3);
        wrongBehind(Told.SIX + "ring a b; ring c d ", "b", 3);
    }

    private static void wayRoundARing() {
        Due.by(3, "each one's mind is in the next one's BODY, the last one's in the first one's");
        CellarTurns x = Told.cellar(Told.SIX + "ring c a e f; ring d b;");
        int[] bodyOfMind = {4, 3, 0, 1, 5, 2};
        for (int mind = 0; mind < 6; mind++) {
            Due.is("mind " + mind, x.mind(mind), bodyOfMind[mind]);
            Due.is("body " + bodyOfMind[mind], x.body(bodyOfMind[mind], 4), mind);
        }
        CellarTurns y = Told.cellar(Told.THREE + "ring c a;");
        Due.is("others at home", y.mind(1), 1);
    }

    private static void pairsOfPeopleTold() {
        Due.by(3, "been, bar: two PEOPLE told, not the same; 2 a NAME of no PERSON told; 3 the second NAME is the first");
        for (String word : new String[] {"been ", "bar "}) {
            right(Told.TWO + word + "a b;");
            wrongBehind(Told.TWO + word, "c", 2);
            wrongBehind(Told.TWO + word + "a ", "c", 2);
            wrongBehind(Told.TWO + "new n price 1;" + word, "n", 2);
            wrongBehind(Told.TWO + "new n price 1;" + word + "a ", "n", 2);
            wrongBehind(Told.TWO + word + "a ", "a", 3);
            wrongBehind(Told.TWO + word + "b ", "b", 3);
            wrongBehind(Told.TWO + word + "a ", ";", 1);
            wrongBehind(Told.TWO + word, ";", 1);
            wrongBehind(Told.THREE + word + "a b ", "c", 1);
            wrongBehind("person a plain;" + word + "a ", "b; person b plain;", 2);
            right("person a ill; person b cat;" + word + "b a;");
        }
    }

    private static void pairsOnce() {
        Due.by(3, "each pair once of each; 3 the second NAME of been, bar, of a pair told so");
        for (String word : new String[] {"been ", "bar "}) {
            String other = word.equals("bar ") ? "been " : "bar ";
            wrongBehind(Told.THREE + word + "a b;" + word + "a ", "b", 3);
            wrongBehind(Told.THREE + word + "a b;" + word + "b ", "a", 3);
            right(Told.THREE + word + "a b;" + word + "a c;" + word + "c b;");
            right(Told.THREE + word + "a b;" + other + "a b;");
            right(Told.THREE + word + "a b;" + other + "b a;");
            wrongBehind(Told.THREE + word + "a b;" + other + "a b;" + word + "b ", "a", 3);
        }
        CellarTurns x = Told.cellar(Told.THREE + "been a b; bar a b; bar c b;");
        Due.is("pairs been", x.count(4), 1);
        Due.is("bars", x.count(8), 2);
    }

    private static void often() {
        Due.by(3, "often 1 to 9 (9); 4 a NUMBER that is not as told");
        for (int many = 1; many <= 9; many++) {
            Due.is("often " + many, Told.cellar("often " + many + ";").count(7), many);
        }
        Due.is("not told", Told.cellar(Told.TWO).count(7), 9);
        wrongBehind("often ", "0", 4);
        wrongBehind("often ", "0000", 4);
        wrongBehind("often ", "10", 4);
        wrongBehind("often ", "9999", 4);
        wrongBehind("often ", "-", 1);
        CellarTurns x = Told.cellar("often 3;");
        Told.feed(x, Told.TWO);
        x.cellar();
        Due.is("told once, not the next time", x.count(7), 9);
    }

    private static void oftenOnce() {
        Due.by(3, "often: once; 3 often a second time");
        wrongBehind("often 9; ", "often", 3);
        wrongBehind("often 9; ", "often 9;", 3);
        wrongBehind("often 2; costs 1; ", "often", 3);
    }

    private static void costsOnce() {
        Due.by(3, "costs: once; 3 costs a second time");
        wrongBehind("costs 1; ", "costs", 3);
        wrongBehind("costs wrong; ", "costs wrong;", 3);
        wrongBehind("costs 1; often 2; ", "costs", 3);
        CellarTurns x = Told.cellar("costs 1;");
        Told.feed(x, "costs 2;");
        Due.is("the next cellar may", x.cellar(), 0);
    }

    private static void nothingElseInACellar() {
        Due.by(3, "CELLAR: any number of these; 1 it can't stand there");
        for (String token : ("price turn round fetch plain ill shy cat not and or wrong turns met a 1 ; ( ) < = + - *")
                .split(" ")) {
            wrongBehind("", token, 1);
            wrongBehind("person a plain; ", token, 1);
        }
        wrongBehind("person a plain ", "person", 1);
        right("often 2; person a plain; costs 1; person b plain; bar a b; new c price 1; been a b; person d cat; ring d a;");
    }

    // Promise 3: laws

    private static void partsOfALaw() {
        Due.by(3, "PART: a NUMBER, a fact, not PART, ( E ); 1 it can't stand there");
        for (String part : "0,9999,wrong,turns,met,(1),(1<2),not 1,not not wrong,not(met),(not 1)".split(",")) {
            right("costs " + part + ";");
        }
        for (String token : ("person new price ring been bar often costs turn round fetch plain ill shy cat and or "
                + "left a wrongs ) < = + - * ;").split(" ")) {
            for (String ahead : new String[] {"", "1 + ", "1 - ", "1 * ", "1 < ", "1 = ", "1 and ", "1 or ", "(", "not "}) {
                wrongBehind("costs " + ahead, token, 1);
            }
        }
        for (String token : "1 wrong not ( ) a person".split(" ")) {
            wrongBehind("costs 1 ", token, 1);
        }
        wrongBehind("costs (1 ", ";", 1);
        wrongBehind("costs (1) ", ")", 1);
    }

    private static void oneComparison() {
        Due.by(3, "TEST: SUM, or SUM < SUM, or SUM = SUM");
        wrongBehind("costs 1 < 2 ", "<", 1);
        wrongBehind("costs 1 < 2 ", "=", 1);
        wrongBehind("costs 1 = 2 ", "<", 1);
        wrongBehind("costs 1 = 2 ", "=", 1);
        wrongBehind("costs (1 = 2 ", "=", 1);
        right("costs (1 < 2) < 3;");
        right("costs 1 < (2 < 3);");
        right("costs 1 < 2 and 3 = 4 or 5 < 6;");
    }

    private static void fiveOthers() {
        Due.by(3, "no PART lies within 5 of not and ( ); 5 not, or a PART, within 5 others");
        right("costs ((((1))));");
        right("costs (((not 1)));");
        right("costs not not not not 1;");
        right("costs not (not (1));");
        right("costs ((((1))))+((((1))))*not not not not wrong<((((2))));");
        for (String token : "1 wrong turns met ( not".split(" ")) {
            wrongBehind("costs (((((", token, 5);
            wrongBehind("costs not not not not not ", token, 5);
            wrongBehind("costs not (not (not ", token, 5);
            wrongBehind("costs 1 + ((1) and not not not (", token, 5);
            wrongBehind("costs ((((1 + (", token, 5);
        }
        for (String token : "a ; ) + and 12345 ?".split(" ")) {
            wrongBehind("costs (((((", token, 1);
        }
        cellarFault("costs (((((", 1, 11);
    }

    private static void costOfTurn(String law, int cost) {
        CellarTurns x = Told.cellar(Told.TWO + "costs " + law + ";");
        x.turn(0, 1);
        Due.is("costs " + law, x.count(6), cost);
    }

    private static void lawFromTheLeft() {
        Due.by(3, "TEST { and TEST or or TEST }, from the left");
        costOfTurn("1 or 1 and 0", 0);
        costOfTurn("1 or (1 and 0)", 1);
        costOfTurn("0 and 0 or 1", 1);
        costOfTurn("0 and (0 or 1)", 0);
        costOfTurn("9 - 3 - 2", 4);
        costOfTurn("9 - 3 + 2", 8);
        costOfTurn("9 - (3 + 2)", 4);
        costOfTurn("2 + 3 * 4", 14);
        costOfTurn("2 * 3 + 4", 10);
        costOfTurn("20 - 2 * 3 * 2", 8);
    }

    private static void lawGivesOneOrZero() {
        Due.by(3, "Of not, and, or, < and = comes 1 or 0; what is not 0 is so");
        costOfTurn("not 0", 1);
        costOfTurn("not 1", 0);
        costOfTurn("not 7", 0);
        costOfTurn("not (0 - 7)", 0);
        costOfTurn("7 and 8", 1);
        costOfTurn("7 and 0", 0);
        costOfTurn("0 and 7", 0);
        costOfTurn("1 and 2", 1);
        costOfTurn("0 - 7 and 1", 1);
        costOfTurn("7 or 0", 1);
        costOfTurn("0 or 7", 1);
        costOfTurn("0 or 0 - 7", 1);
        costOfTurn("0 or 0", 0);
        costOfTurn("3 < 4", 1);
        costOfTurn("4 < 4", 0);
        costOfTurn("4 < 3", 0);
        costOfTurn("0 - 1 < 0", 1);
        costOfTurn("4 = 4", 1);
        costOfTurn("4 = 3", 0);
        costOfTurn("3 = 4", 0);
        for (String nought : new String[] {"7 and 0", "0 or 0", "4 < 3", "3 = 4", "not 7"}) {
            costOfTurn("5 - (" + nought + ") * 2", 5);
        }
        costOfTurn("not 0 + not 0 + 3", 5);
        costOfTurn("not 2 * 3 + 4", 4);
    }

    private static void lawWraps() {
        Due.by(3, "ints wrap");
        // 46341 * 46341 is 2147488281, which is -2147479015 wrapped.
        costOfTurn("(5 * 9999 - 3654) * (5 * 9999 - 3654) < 0", 1);
        costOfTurn("(5 * 9999 - 3655) * (5 * 9999 - 3655) < 0", 0);
        // 65536 * 65536 is nothing wrapped, 65536 * 32768 the least int, less by one the greatest.
        costOfTurn("256 * 256 * 256 * 256 + 5", 5);
        costOfTurn("256 * 256 * 256 * 128 < 0", 1);
        costOfTurn("0 < 256 * 256 * 256 * 128 - 1", 1);
        costOfTurn("256 * 256 * 256 * 128 - 1 + 1 = 256 * 256 * 256 * 128", 1);
        costOfTurn("0 - 256 * 256 * 256 * 128 < 0", 1);
        costOfTurn("256 * 256 * 256 * 128 * 2 + 7", 7);
    }

    private static void withoutCosts() {
        Due.by(3, "Without costs: wrong");
        CellarTurns x = Told.cellar(Told.THREE);
        x.turn(0, 1);
        Due.is("two", x.count(6), 2);
        x.turn(1, 2);
        Due.is("three more", x.count(6), 5);
        CellarTurns y = Told.cellar(Told.TWO + "costs 7;");
        Told.feed(y, Told.TWO);
        y.cellar();
        y.turn(0, 1);
        Due.is("not those of the cellar before", y.count(6), 2);
        CellarTurns z = Told.cellar(Told.TWO + "person k cat; ring a b;");
        z.turn(0, 1);
        Due.is("none wrong costs nothing", z.count(6), 0);
    }

    private static void factsOfALaw() {
        Due.by(3, "Facts: wrong (behind the turn), turns (ahead of it), met (pairs that had been ahead of it)");
        CellarTurns x = Told.cellar(Told.SIX + "been e f; costs 100 * wrong + 10 * turns + met;");
        x.turn(0, 1);
        Due.is("the first turn", x.count(6), 201);
        x.round(2, 3, 4);
        Due.is("a round", x.count(6), 201 + 512);
        x.turn(0, 2);
        Due.is("behind a round", x.count(6), 201 + 512 + 525);
        x.undo();
        x.turn(0, 2);
        Due.is("undone and done again", x.count(6), 201 + 512 + 525);
    }

    // Promise 3: what stays and what goes

    private static CellarTurns inTheMiddle() {
        CellarTurns x = Told.cellar(Told.FOUR + "new n price 7; ring a b; been a b; often 4; bar b c; costs 3;");
        Told.feed(x, "turn a c; fetch n;");
        x.evening();
        x.turn(0, 2);
        x.fetch(4);
        x.see(1, 1);
        x.mark(2, false);
        return x;
    }

    private static void faultKeepsAll() {
        Due.by(3, "0, or its FAULT (all stays then)");
        CellarTurns x = inTheMiddle();
        String ahead = Told.state(x);
        Told.feed(x, "person z cat; person y ill; ring z y; been z y; bar z y; often 2; costs 9; new w price 5; ?");
        Due.is("fault", x.cellar() & 15, 1);
        Due.same("the state", Told.state(x), ahead);
        Due.is("kinds", x.body(0, 0), 0);
        Due.is("price", x.body(4, 2), 7);
        Due.is("bars", x.may(1, 2), false);
        Due.is("judged", x.judged(2), 3 + 7);
        Due.is("law", x.turn(0, 3), 4);
        Due.is("its cost", x.count(6), 13);
        Told.feed(x, "turn z y;");
        Due.is("names are those of before", x.evening(), 2 + 16 * 5);
        Due.is("undo", x.undo(), true);
        Due.is("mark", x.mark(2, true), true);
        Due.is("other marks", x.mark(1, true), false);
    }

    private static void newCellarKeepsNothing() {
        Due.by(3, "turn 0, minds as told, pairs been as told, nobody has sat, no new one is there, no cost, no EVENING,"
                + " nothing SEEN, nothing can be undone, no MARK is there");
        CellarTurns x = inTheMiddle();
        String text = Told.THREE + "new n price 1; ring b c; been c b;";
        Told.feed(x, text);
        Due.is("cellar", x.cellar(), 0);
        Due.same("the state", Told.state(x), Told.state(Told.cellar(text)));
        int[] counts = {4, 1, 3, 0, 1, 2, 0, 9, 0, 0, 0, 0, 0};
        for (int what = 0; what < counts.length; what++) {
            Due.is("count " + what, x.count(what), counts[what]);
        }
        Due.is("undo", x.undo(), false);
        for (int mark = 0; mark < 4; mark++) {
            Due.is("mark " + mark, x.mark(mark, true), false);
        }
        Due.is("rows", x.rows(1), 2);
        Due.is("judged", x.judged(1), 2);
        CellarTurns y = inTheMiddle();
        Due.is("an empty text", y.cellar(), 0);
        Due.is("is nobody", y.count(0), 0);
        Due.is("mind", y.mind(0), NONE);
    }

    private static void eachTextIsReadAnew() {
        Due.by(3, "The TAPE is read as a CELLAR, whatever was read ahead of it");
        String full = Told.SIX + "new g price 9; new h price 9; ring f e d c b a; been a b; bar c d; often 3; costs not 1;";
        CellarTurns x = new CellarTurns();
        for (int i = 0; i < 3; i++) {
            Told.feed(x, full);
            Due.is("a full one", x.cellar(), 0);
            Due.is("all wrong", x.count(5), 6);
            Told.feed(x, full + "?");
            Due.is("and a faulty one", x.cellar(), 1 + 16 * full.length());
        }
        Told.feed(x, Told.TWO + "ring a c;");
        Due.is("no NAME of another text", x.cellar(), 2 + 16 * (Told.TWO.length() + 7));
        Told.feed(x, Told.FOUR + "costs 3;");
        Due.is("a lesser one", x.cellar(), 0);
        Due.same("the state", Told.state(x), Told.state(Told.cellar(Told.FOUR)));
        Due.is("none wrong", x.count(5), 0);
        Due.is("no pair been, no bar", x.left(), 6);
        x.turn(0, 1);
        Due.is("its own law", x.count(6), 3);
        Told.feed(x, Told.SIX + "new g price 9; new h price 9; ring a z;");
        Due.is("of eight none is z", x.cellar(), 2 + 16 * (Told.SIX.length() + 37));
        for (int i = 0; i < 2; i++) {
            Told.feed(x, "person a cat; person b ill; person c shy; ring a b c;");
            Due.is("cats and others", x.cellar(), 0);
        }
        Told.feed(x, Told.THREE + "ring a b c;");
        Due.is("where these were now are others", x.cellar(), 0);
        Due.is("all wrong", x.count(5), 3);
        Due.is("all may", x.left(), 3);
        Due.is("as often as others", x.ready(0, 1, 2), true);
        Told.feed(x, "");
        Due.is("nobody", x.cellar(), 0);
        Due.is("no one", x.count(0), 0);
        Due.is("none wrong", x.count(5), 0);
    }

    // Promise 4

    private static void eveningFault(String text, int kind, int place) {
        CellarTurns x = Told.cellar(Told.THREE + "new n price 5; new m price 6;");
        Told.feed(x, "turn a b; turn a c;");
        x.evening();
        Told.feed(x, text);
        Due.is("evening " + text, x.evening(), kind + 16 * place);
        if (kind != 0) {
            Due.is("lines behind " + text, x.count(9), 2);
        }
    }

    private static void wrongInEvening(String text, String token, int kind) {
        eveningFault(text + token, kind, text.length());
        eveningFault(text + token + " ? turn", kind, text.length());
    }

    private static void thirtyLines() {
        Due.by(4, "30 lines at most; 5 the first word of a 31st line");
        String lines = "turn a b; round a b c; fetch n; ".repeat(10);
        eveningFault(lines, 0, 0);
        eveningFault(lines + " \n ", 0, 0);
        for (String word : "turn round fetch".split(" ")) {
            wrongInEvening(lines, word, 5);
        }
        wrongInEvening(lines, "turn a b;", 5);
        // What could begin no line is wrong by less.
        for (String token : "person a n 1 ; ?".split(" ")) {
            wrongInEvening(lines, token, 1);
        }
        CellarTurns x = Told.cellar(Told.THREE + "new n price 5;");
        Told.feed(x, lines);
        x.evening();
        Due.is("thirty", x.count(9), 30);
        Told.feed(x, lines + "turn");
        Due.is("one too many", x.evening() & 15, 5);
        Due.is("thirty still", x.count(9), 30);
    }

    private static void bodiesOfAnEvening() {
        Due.by(4, "BODIES told; 2 a NAME of no BODY (behind turn, round); 1 what can't stand there; the end");
        eveningFault("", 0, 0);
        eveningFault(" \n", 0, 0);
        eveningFault("turn a n; turn n m; round n a m;fetch m;", 0, 0);
        for (String ahead : new String[] {"turn ", "turn a ", "round ", "round a ", "round a b ", "round n m "}) {
            wrongInEvening(ahead, "z", 2);
            wrongInEvening(ahead, "fetch", 1);
            wrongInEvening(ahead, "plain", 1);
            wrongInEvening(ahead, "1", 1);
            wrongInEvening(ahead, ";", 1);
            wrongInEvening(ahead, "abcdefghi", 1);
            eveningFault(ahead, 1, ahead.length());
        }
        wrongInEvening("turn a b ", "c", 1);
        wrongInEvening("round a b c ", "n", 1);
        wrongInEvening("fetch n ", "m", 1);
        eveningFault("turn a b", 1, 8);
        eveningFault("round a b c\n", 1, 12);
        eveningFault("fetch n ", 1, 8);
        for (String token : "person new ring been bar often costs price plain not and or a z 1 ; ( <".split(" ")) {
            wrongInEvening("", token, 1);
            wrongInEvening("turn a b; ", token, 1);
        }
    }

    private static void notTheSameInALine() {
        Due.by(4, "not the same; 3 a NAME of turn, round that stands there already");
        wrongInEvening("turn a ", "a", 3);
        wrongInEvening("turn n ", "n", 3);
        wrongInEvening("round a ", "a", 3);
        wrongInEvening("round a b ", "a", 3);
        wrongInEvening("round a b ", "b", 3);
        eveningFault("turn a b; turn a b; turn b a; round a b c; round a b c; fetch n; fetch n;", 0, 0);
    }

    private static void newOnesOfFetch() {
        Due.by(4, "of fetch a new one; 2 a NAME of no new one (behind fetch) told");
        wrongInEvening("fetch ", "a", 2);
        wrongInEvening("fetch ", "z", 2);
        wrongInEvening("fetch ", "fetch", 1);
        wrongInEvening("fetch ", ";", 1);
        wrongInEvening("fetch ", "7", 1);
        eveningFault("fetch", 1, 5);
        eveningFault("fetch m;", 0, 0);
    }

    private static void eveningsAreReplaced() {
        Due.by(4, "An EVENING is the EVENING; likewise (all stays with a FAULT)");
        CellarTurns x = Told.cellar(Told.THREE + "ring a b;");
        Told.feed(x, "turn a b; turn a b;");
        x.evening();
        Due.is("the second can't be", x.judged(0), 1);
        String ahead = Told.state(x);
        Told.feed(x, "turn a c; turn a");
        Due.is("a fault", x.evening(), 1 + 16 * 16);
        Due.same("the state", Told.state(x), ahead);
        Due.is("the one before is judged", x.judged(0), 1);
        Due.is("none wrong", x.judged(1), 0);
        Told.feed(x, "turn a c;");
        x.evening();
        Due.is("another", x.judged(0), NONE);
        Due.is("three wrong", x.judged(1), 3);
        Due.is("one line", x.count(9), 1);
        Due.is("it is told, not played", x.count(3), 0);
        Due.is("an empty one", x.evening(), 0);
        Due.is("no line", x.count(9), 0);
    }

    private static void eveningOfNobody() {
        Due.by(4, "BODIES told: at first nobody");
        CellarTurns x = new CellarTurns();
        Told.feed(x, "turn a b;");
        Due.is("turn", x.evening(), 2 + 16 * 5);
        Told.feed(x, "fetch a;");
        Due.is("fetch", x.evening(), 2 + 16 * 6);
        Due.is("nothing", x.evening(), 0);
        Due.is("no line", x.count(9), 0);
    }
}
