import java.util.NoSuchElementException;

/** Promises 21 to 33: each sentence that names a boundary of what is looked for, counted, drawn and kept. */
public final class BoundariesOfRowsTest {
    private static final int NONE = CellarTurns.NONE;
    private static final int LEAST = Integer.MIN_VALUE;
    private static final int MOST = Integer.MAX_VALUE;
    private static final int THROWN = -99;
    private static final int[] NO_BODIES = {-1, -8, 8, 9, 16, 32, 64, 256, 1 << 16, MOST, LEAST, LEAST + 1};
    // Each of these needs one TURN more than the one ahead of it.
    private static final String[] RINGS = {"", "ring a b;", "ring a b c;", "ring a b c d;", "ring a b c d e;",
        "ring a b c d e f;"};
    private static final int[] FIRST_ROW = {1, 8 + 2, 16 + 3, 24 + 4, 32 + 5};

    private BoundariesOfRowsTest() {
    }

    public static void main(String[] args) {
        turnsOfFewest();
        whatOfFewest();
        fewestByNone();
        firstRowOfFewest();
        fewestAmongThoseThere();
        fewestLeavesNoneWrong();
        turnsOfWhich();
        whichIsNotThere();
        whichIsCheapest();
        turnsOfLeast();
        whatOfLeast();
        leastWithoutATurn();
        firstRowOfLeast();
        turnsOfCheap();
        whatOfCheap();
        cheapByNone();
        cheapOfEqualOnes();
        cheapByCost();
        turnsOfMuddles();
        muddlesFromAnyMuddle();
        muddlesBehindJustSoMany();
        turnsOfChance();
        chanceIsCut();
        chanceWhenNoneMay();
        othersThatAreSeen();
        eightSeen();
        turnsOfRows();
        rowsOfSeen();
        pairsOfOthers();
        noRow();
        pairInAllSomeOrNone();
        turnsOfLook();
        nothingPartsThem();
        firstLook();
        lookAtThoseThere();
        seedsOfEvenings();
        manyEvenings();
        whatOfEvenings();
        sixTurnsAnEvening();
        drawsOfEvenings();
        allIsAsAhead();
        marksNoughtToThree();
        nothingOnAMark();
        whatAMarkHolds();
        whatAMarkDoesNotHold();
        marksStayAndGo();
        othersOfCount();
        leastAndMostOfCount();
        Due.close(21, 33);
    }

    private static CellarTurns cellar(String text) {
        return Told.cellar(text);
    }

    // Promise 21

    private static void turnsOfFewest() {
        Due.by(21, "by at most so many (0 to 5) TURNS; NONE: others");
        for (int needed = 0; needed <= 5; needed++) {
            CellarTurns x = cellar(Told.SIX + RINGS[needed]);
            for (int turns = 0; turns <= 5; turns++) {
                Due.is(needed + " by " + turns, x.fewest(turns, 0), turns < needed ? NONE : needed);
            }
            for (int turns : new int[] {-1, -2, 6, 7, MOST, LEAST}) {
                Due.is(needed + " by " + turns, x.fewest(turns, 0), NONE);
            }
        }
    }

    private static void whatOfFewest() {
        Due.by(21, "what 0: how many, 1 + i: the i-th TURN; NONE: others");
        for (int needed = 0; needed <= 5; needed++) {
            CellarTurns x = cellar(Told.SIX + RINGS[needed]);
            for (int i = 0; i < 5; i++) {
                Due.is(needed + ": turn " + i, x.fewest(5, 1 + i), i < needed ? FIRST_ROW[i] : NONE);
            }
            for (int what : new int[] {-1, -2, 6, 7, MOST, LEAST}) {
                Due.is(needed + ": what " + what, x.fewest(5, what), NONE);
            }
        }
    }

    private static void fewestByNone() {
        Due.by(21, "NONE: by none");
        CellarTurns been = cellar(Told.THREE + "been a b; ring a b;");
        CellarTurns ill = cellar("person a plain; person i ill; person c plain; ring a i;");
        for (int what = 0; what <= 5; what++) {
            Due.is("a pair that has been " + what, been.fewest(5, what), NONE);
            Due.is("one ill " + what, ill.fewest(5, what), NONE);
        }
        Due.is("often", cellar(Told.THREE + "often 1; ring a b c;").fewest(5, 0), NONE);
        Due.is("shy ones who need to sit three times",
                cellar("person s shy; person b plain; person c plain; person d plain; ring s b c d; bar b c; bar c d; bar b d;")
                        .fewest(5, 0), NONE);
        Due.is("with two more it takes five", cellar(Told.FOUR + "been a b; ring a b;").fewest(5, 0), 5);
        Due.is("not four", cellar(Told.FOUR + "been a b; ring a b;").fewest(4, 0), NONE);
    }

    private static void firstRowOfFewest() {
        Due.by(21, "of equal ones the first row (each by the lesser BODY, then the other one)");
        CellarTurns x = cellar(Told.SIX + "ring f e; ring c a;");
        Due.is("a c", x.fewest(5, 1), 2);
        Due.is("e f", x.fewest(5, 2), 8 * 4 + 5);
        // In a is c's, in b is a's, in c is b's, and a b has been: behind a c it would be needed, behind b c it is not.
        CellarTurns y = cellar(Told.THREE + "ring a b c; been a b;");
        Due.is("b c", y.fewest(5, 1), 8 + 2);
        Due.is("a c", y.fewest(5, 2), 2);
    }

    private static void fewestAmongThoseThere() {
        Due.by(21, "among those there");
        CellarTurns x = cellar(Told.THREE + "been a b; ring a b; new n price 1;");
        Due.is("n is not", x.fewest(5, 0), NONE);
        x.fetch(3);
        Due.is("then n is", x.fewest(5, 0), 5);
        String ahead = Told.state(x);
        x.fewest(5, 3);
        Due.same("nothing was done", Told.state(x), ahead);
        x.undo();
        Due.is("and is not again", x.fewest(5, 0), NONE);
    }

    private static void fewestLeavesNoneWrong() {
        Due.by(21, "that leave none WRONG: a cat's never is");
        CellarTurns cats = cellar("person k cat; person l cat; person a plain; ring k l;");
        Due.is("cats in each other", cats.fewest(0, 0), 0);
        CellarTurns one = cellar("person k cat; person l cat; person a plain; ring k l a;");
        // In k is a's, in l is k's, in a is l's: k a leaves k with l's, l with k's.
        Due.is("only a is wrong", one.fewest(5, 0), 1);
        Due.is("k a", one.fewest(5, 1), 2);
        CellarTurns four = cellar(Told.TWO + "person k cat; person l cat; been a b; ring a b;");
        // a k, b k, k l, a l: the cats are in each other then.
        int[] row = {4, 2, 8 + 2, 16 + 3, 3, NONE};
        for (int what = 0; what < row.length; what++) {
            Due.is("four turns " + what, four.fewest(5, what), row[what]);
        }
        CellarTurns alone = cellar("person k cat; person a plain; person l cat; person b plain; ring k l; ring a b;"
                + "bar k a; bar k l; bar k b;");
        Due.is("a cat that can turn with nobody", alone.fewest(5, 0), 1);
    }

    // Promise 22

    private static final String NEEDS_ONE = Told.THREE + "been a b; ring a b;";

    private static void turnsOfWhich() {
        Due.by(22, "by at most so many TURNS; NONE: others, none");
        CellarTurns x = cellar(NEEDS_ONE + "new n price 1;");
        for (int turns = 0; turns <= 4; turns++) {
            Due.is("which " + turns, x.which(turns), NONE);
        }
        Due.is("which 5", x.which(5), 3);
        for (int turns : new int[] {-1, -2, 6, 7, MOST, LEAST}) {
            Due.is("which " + turns, x.which(turns), NONE);
        }
        CellarTurns home = cellar("new n price 1; person a plain;");
        Due.is("none wrong, without a turn", home.which(0), 0);
        Due.is("one too few, even so", home.which(-1), NONE);
        Due.is("one too many, even so", home.which(6), NONE);
        Due.is("by none with him, either", cellar(Told.TWO + "been a b; ring a b; new n price 1;").which(5), NONE);
    }

    private static void whichIsNotThere() {
        Due.by(22, "WHICH new one, not there");
        Due.is("no new one", cellar(Told.THREE).which(5), NONE);
        CellarTurns x = cellar(NEEDS_ONE + "new n price 1; new m price 2;");
        Due.is("n", x.which(5), 3);
        x.fetch(3);
        Due.is("n is there", x.which(5), 4);
        x.fetch(4);
        Due.is("both are", x.which(5), NONE);
        x.undo();
        String ahead = Told.state(x);
        Due.is("m is not", x.which(5), 4);
        Due.same("nobody was fetched", Told.state(x), ahead);
    }

    private static void whichIsCheapest() {
        Due.by(22, "the cheapest one (of equal ones the first)");
        Due.is("the first", cellar(NEEDS_ONE + "new n price 1; new m price 2;").which(5), 3);
        Due.is("the second", cellar(NEEDS_ONE + "new n price 2; new m price 1;").which(5), 4);
        Due.is("equal", cellar(NEEDS_ONE + "new n price 2; new m price 2;").which(5), 3);
        Due.is("for nothing", cellar(NEEDS_ONE + "new n price 1; new m price 0;").which(5), 4);
        Due.is("both for nothing", cellar(NEEDS_ONE + "new n price 0; new m price 0;").which(5), 3);
        Due.is("both at most", cellar(NEEDS_ONE + "new n price 999; new m price 999;").which(5), 3);
        Due.is("of eight", cellar(Told.SIX + "ring a b; new n price 2; new m price 1;").which(1), 7);
        Due.is("of eight, equal", cellar(Told.SIX + "ring a b; new n price 2; new m price 2;").which(1), 6);
    }

    // Promise 23

    private static void turnsOfLeast() {
        Due.by(23, "at most so many (0 to 4) TURNS; NONE: others");
        CellarTurns x = cellar(Told.SIX + RINGS[5]);
        for (int turns = 0; turns <= 4; turns++) {
            Due.is("wrong by " + turns, x.least(turns, 0), 6 - turns);
            Due.is("turns by " + turns, x.least(turns, 1), turns);
        }
        for (int turns : new int[] {-1, -2, 5, 6, MOST, LEAST}) {
            for (int what = 0; what <= 2; what++) {
                Due.is("least " + turns + " " + what, x.least(turns, what), NONE);
            }
        }
    }

    private static void whatOfLeast() {
        Due.by(23, "what 0: WRONG, 1: TURNS, 2 + i: the i-th one; NONE: others");
        CellarTurns x = cellar(Told.SIX + RINGS[5]);
        for (int turns = 0; turns <= 4; turns++) {
            for (int i = 0; i < 5; i++) {
                Due.is(turns + ": turn " + i, x.least(turns, 2 + i), i < turns ? FIRST_ROW[i] : NONE);
            }
        }
        for (int what : new int[] {-1, -2, 6, 7, MOST, LEAST}) {
            Due.is("what " + what, x.least(4, what), NONE);
        }
        CellarTurns two = cellar(Told.SIX + RINGS[2]);
        Due.is("two are enough", two.least(4, 1), 2);
        Due.is("no third", two.least(4, 4), NONE);
        Due.is("no fourth", two.least(4, 5), NONE);
    }

    private static void leastWithoutATurn() {
        Due.by(23, "how many TURNS are enough for it: none, where none helps");
        for (String text : new String[] {Told.TWO + "bar a b; ring a b;", "person i ill; person j ill; ring i j;",
            Told.THREE + "often 1; been a b; ring a b;"}) {
            CellarTurns x = cellar(text);
            Due.is("two stay wrong", x.least(4, 0), 2);
            Due.is("by none", x.least(4, 1), 0);
            Due.is("no turn", x.least(4, 2), NONE);
        }
        CellarTurns done = cellar(Told.SIX + "ring a b c;");
        Due.is("two are needed", done.least(4, 1), 2);
        done.turn(0, 1);
        done.turn(1, 2);
        Due.is("and none then", done.least(4, 1), 0);
        Due.is("no turn", done.least(4, 2), NONE);
        CellarTurns home = cellar(Told.SIX);
        Due.is("none wrong", home.least(4, 0), 0);
        Due.is("by none", home.least(4, 1), 0);
        Due.is("by none at most", home.least(0, 0), 0);
    }

    private static void firstRowOfLeast() {
        Due.by(23, "how many TURNS are enough for it; of these the first row; among those there");
        CellarTurns x = cellar(Told.SIX + "ring b e; ring d c;");
        Due.is("one turn leaves two", x.least(1, 0), 2);
        Due.is("b e ahead of c d", x.least(1, 2), 8 + 4);
        Due.is("both leave none", x.least(2, 0), 0);
        Due.is("b e", x.least(2, 2), 8 + 4);
        Due.is("c d", x.least(2, 3), 16 + 3);
        Due.is("more are not needed", x.least(4, 1), 2);
        CellarTurns cats = cellar("person k cat; person a plain; person l cat; person b plain; ring k a l b;");
        // In a is k's, in l is a's, in b is l's, in k is b's: k b brings b's home, and only a is wrong.
        Due.is("with cats one turn leaves one", cats.least(1, 0), 1);
        Due.is("k b", cats.least(1, 2), 3);
        CellarTurns one = cellar("person k cat; person a plain; person b plain; ring k a b;");
        // In a is k's, in b is a's, in k is b's: k b brings b's home, and only a is wrong.
        Due.is("with one cat, the first, one turn leaves one", one.least(1, 0), 1);
        Due.is("k b", one.least(1, 2), 2);
        CellarTurns with = cellar("person a plain; person k cat; ring a k;");
        Due.is("only a is wrong now", with.least(0, 0), 1);
        Due.is("and none behind one turn", with.least(1, 0), 0);
        Due.is("one is enough", with.least(4, 1), 1);
        Due.is("a k", with.least(4, 2), 1);
        CellarTurns y = cellar(Told.TWO + "been a b; ring a b; new n price 1;");
        Due.is("n is not there", y.least(4, 0), 2);
        String ahead = Told.state(y);
        y.least(4, 0);
        Due.same("nothing was done", Told.state(y), ahead);
    }

    // Promise 24

    private static void turnsOfCheap() {
        Due.by(24, "of at most so many (0 to 5) TURNS; NONE: others");
        for (int needed = 0; needed <= 5; needed++) {
            CellarTurns x = cellar(Told.SIX + RINGS[needed] + "costs 7;");
            for (int turns = 0; turns <= 5; turns++) {
                Due.is(needed + " by " + turns, x.cheap(turns, 0), turns < needed ? NONE : 7 * needed);
                Due.is(needed + " by " + turns, x.cheap(turns, 1), turns < needed ? NONE : needed);
            }
            for (int turns : new int[] {-1, -2, 6, 7, MOST, LEAST}) {
                Due.is(needed + " by " + turns, x.cheap(turns, 0), NONE);
            }
        }
    }

    private static void whatOfCheap() {
        Due.by(24, "what 0: cost, 1: TURNS, 2 + i: the i-th one; NONE: others");
        for (int needed = 0; needed <= 5; needed++) {
            CellarTurns x = cellar(Told.SIX + RINGS[needed] + "costs 1;");
            for (int i = 0; i < 5; i++) {
                Due.is(needed + ": turn " + i, x.cheap(5, 2 + i), i < needed ? FIRST_ROW[i] : NONE);
            }
            for (int what : new int[] {-1, -2, 7, 8, MOST, LEAST}) {
                Due.is(needed + ": what " + what, x.cheap(5, what), NONE);
            }
        }
    }

    private static void cheapByNone() {
        Due.by(24, "NONE: by none; among those there");
        CellarTurns x = cellar(Told.THREE + "been a b; ring a b; new n price 1; costs 0;");
        for (int what = 0; what <= 6; what++) {
            Due.is("cheap " + what, x.cheap(5, what), NONE);
        }
        x.fetch(3);
        Due.is("with n", x.cheap(5, 0), 0);
        Due.is("by five", x.cheap(5, 1), 5);
        String ahead = Told.state(x);
        x.cheap(5, 6);
        Due.same("nothing was done", Told.state(x), ahead);
    }

    private static void cheapOfEqualOnes() {
        Due.by(24, "of equal ones the fewest TURNS; of equal ones the first row");
        CellarTurns free = cellar(Told.FOUR + "ring b c; costs 0;");
        Due.is("nothing", free.cheap(5, 0), 0);
        Due.is("one turn, though three cost the same", free.cheap(5, 1), 1);
        Due.is("b c", free.cheap(5, 2), 8 + 2);
        CellarTurns two = cellar(Told.FOUR + "ring b c; ring d a; costs 3;");
        Due.is("six", two.cheap(5, 0), 6);
        Due.is("a d", two.cheap(5, 2), 3);
        Due.is("b c", two.cheap(5, 3), 8 + 2);
        CellarTurns home = cellar(Told.FOUR + "costs 0;");
        Due.is("no turn, though some cost nothing", home.cheap(5, 1), 0);
        CellarTurns cats = cellar("person k cat; person l cat; person a plain; ring k l;");
        for (int turns = 0; turns <= 5; turns++) {
            Due.is("cats in each other: cost by " + turns, cats.cheap(turns, 0), 0);
            Due.is("cats in each other: turns by " + turns, cats.cheap(turns, 1), 0);
            Due.is("cats in each other: no turn by " + turns, cats.cheap(turns, 2), NONE);
        }
    }

    private static void cheapByCost() {
        Due.by(24, "the least cost (each TURN 0 to 999), by the turns and pairs from now on");
        CellarTurns dear = cellar(Told.SIX + RINGS[5] + "costs 5000;");
        Due.is("999 each", dear.cheap(5, 0), 5 * 999);
        CellarTurns below = cellar(Told.SIX + RINGS[5] + "costs 0 - 9;");
        Due.is("nothing each", below.cheap(5, 0), 0);
        CellarTurns law = cellar(Told.FOUR + "ring a b; been c d; costs 10 * turns + met;");
        Due.is("one pair has been", law.cheap(5, 0), 1);
        law.turn(2, 0);
        // In a is c's, in b is a's, in c is b's; a c has been: a b gives b c's, then b c.
        Due.is("two turns on", law.cheap(2, 0), 12 + 23);
        Due.is("cost so far is aside", law.count(6), 1);
        CellarTurns sooner = cellar(Told.SIX + "ring a b; ring c d e; costs wrong;");
        // a b first leaves 3, then 2, then 0; c d first leaves 4.
        int[] row = {5, 3, 1, 16 + 3, 24 + 4, NONE};
        for (int what = 0; what < row.length; what++) {
            Due.is("the first row is the cheapest: " + what, sooner.cheap(3, what), row[what]);
        }
        CellarTurns later = cellar(Told.SIX + "ring a b c; ring d e; costs wrong * 5 + met * 2;");
        Due.is("the last row is the cheapest: 15 and 0, 10 and 2, 0 and 4", later.cheap(3, 0), 31);
        Due.is("d e", later.cheap(3, 2), 24 + 4);
        CellarTurns clock = cellar(Told.SIX + "ring a b c; ring d e; costs wrong * 5 + turns * 2;");
        Due.is("likewise by turns", clock.cheap(3, 0), 31);
        CellarTurns longer = cellar(Told.FOUR + "ring a b; costs 100 * (turns = 0) * (wrong = 0) + 2;");
        Due.is("by one", longer.cheap(2, 0), 102);
        Due.is("by three it is less", longer.cheap(3, 0), 6);
        Due.is("three", longer.cheap(3, 1), 3);
        Due.is("by five it is not", longer.cheap(5, 0), 6);
    }

    // Promise 25

    private static void turnsOfMuddles() {
        Due.by(25, "just so many (0 to 2) TURNS; NONE: others");
        CellarTurns x = Told.eightThere("");
        Due.is("none", x.muddles(0), 1);
        Due.is("one", x.muddles(1), 28);
        // 56 threes, each either way round, and 28 * 15 / 2 two pairs.
        Due.is("two", x.muddles(2), 112 + 210);
        for (int turns : new int[] {-1, -2, 3, 4, MOST, LEAST}) {
            Due.is("muddles " + turns, x.muddles(turns), NONE);
        }
        String ahead = Told.state(x);
        x.muddles(2);
        Due.same("nothing was done", Told.state(x), ahead);
    }

    private static void muddlesFromAnyMuddle() {
        Due.by(25, "the most ways there can be, from whatever muddle");
        muddlesOn("", "abcdef");
    }

    /** Each order of the six is a muddle (who stands first is in a, and so on); the ways are as many from each. */
    private static void muddlesOn(String order, String others) {
        if (others.isEmpty()) {
            Due.is("two from " + order, Told.eightThere(ringsOf(order)).muddles(2), 112 + 210);
        }
        for (int i = 0; i < others.length(); i++) {
            muddlesOn(order + others.charAt(i), others.substring(0, i) + others.substring(i + 1));
        }
    }

    private static String ringsOf(String order) {
        StringBuilder text = new StringBuilder();
        boolean[] walked = new boolean[order.length()];
        for (int body = 0; body < order.length(); body++) {
            String ring = "";
            for (int at = body; !walked[at]; at = order.charAt(at) - 'a') {
                walked[at] = true;
                // A ring tells first whose mind is in the next one, so it is told from its end.
                ring = " " + (char) ('a' + at) + ring;
            }
            if (ring.length() > 2) {
                text.append("ring").append(ring).append(';');
            }
        }
        return text.toString();
    }

    private static void muddlesBehindJustSoMany() {
        Due.by(25, "how many ways for minds to be in BODIES there can be");
        CellarTurns two = cellar(Told.TWO + "ring a b;");
        Due.is("now", two.muddles(0), 1);
        Due.is("one", two.muddles(1), 1);
        Due.is("so many can't be", two.muddles(2), 0);
        Due.is("none may", cellar("person i ill; person a plain;").muddles(1), 0);
        Due.is("without any, even so", cellar("person i ill; person a plain;").muddles(0), 1);
        CellarTurns three = cellar(Told.THREE);
        Due.is("six rows, two ways", three.muddles(2), 2);
        CellarTurns cats = cellar("person k cat; person l cat; person m cat;");
        Due.is("cats' count, too", cats.muddles(1), 3);
        CellarTurns fresh = cellar(Told.TWO + "new n price 1;");
        Due.is("one not there", fresh.muddles(1), 1);
        fresh.fetch(2);
        Due.is("then there", fresh.muddles(1), 3);
    }

    // Promise 26

    private static void turnsOfChance() {
        Due.by(26, "so many (0 to 3) TURNS; NONE: others");
        CellarTurns x = Told.eightThere("ring a b; ring c d; ring e f;");
        Due.is("none", x.chance(0), 0);
        Due.is("one", x.chance(1), 0);
        Due.is("two", x.chance(2), 0);
        // 1000000 / 28 is 35714, / 27 is 1322, / 26 is 50: three turns in six orders.
        Due.is("three", x.chance(3), 300);
        for (int turns : new int[] {-1, -2, 4, 5, MOST, LEAST}) {
            Due.is("chance " + turns, x.chance(turns), NONE);
        }
        String ahead = Told.state(x);
        x.chance(3);
        Due.same("nothing was done", Told.state(x), ahead);
    }

    private static void chanceIsCut() {
        Due.by(26, "what is likely is shared out alike at each TURN, cut; what was cut is lost");
        Due.is("a sixth", cellar(Told.FOUR + "ring a b;").chance(1), 166666);
        Due.is("a 28th", Told.eightThere("ring a b;").chance(1), 35714);
        // Of a c then b c, and b c then a c, the second alone undoes the ring.
        Due.is("one row of two", cellar(Told.THREE + "ring a b c; been a b;").chance(2), 500000);
        Due.is("and a 27th of it, twice", Told.eightThere("ring a b; ring c d;").chance(2), 2 * 1322);
        Due.is("a third, all of them", cellar("person k cat; person l cat; person m cat;").chance(1), 999999);
        // 333333 / 2 is 166666, six times.
        Due.is("and halves", cellar("person k cat; person l cat; person m cat;").chance(2), 999996);
        Due.is("and wholes", cellar("person k cat; person l cat; person m cat;").chance(3), 999996);
    }

    private static void chanceWhenNoneMay() {
        Due.by(26, "nothing more if none MAY");
        CellarTurns x = cellar(Told.TWO + "ring a b;");
        Due.is("now", x.chance(0), 0);
        for (int turns = 1; turns <= 3; turns++) {
            Due.is("one turn, then nothing more " + turns, x.chance(turns), 1000000);
        }
        CellarTurns ill = cellar("person i ill; person j ill;");
        Due.is("none, at home", ill.chance(3), 1000000);
        Due.is("none, wrong", cellar("person i ill; person j ill; ring i j;").chance(3), 0);
        CellarTurns some = cellar(Told.THREE + "person d plain; ring a b; ring c d; bar a c; bar a d; bar b c; bar b d;");
        Due.is("a b or c d", some.chance(1), 0);
        Due.is("both", some.chance(2), 1000000);
        Due.is("and nothing more", some.chance(3), 1000000);
    }

    // Promise 27

    private static void othersThatAreSeen() {
        Due.by(27, "false: others");
        CellarTurns x = cellar(Told.THREE + "new n price 1;");
        for (int other : NO_BODIES) {
            Due.is("body " + other, x.see(other, 0), false);
            Due.is("mind " + other, x.see(0, other), false);
        }
        Due.is("body one beyond", x.see(4, 0), false);
        Due.is("mind one beyond", x.see(0, 4), false);
        Due.is("none was kept", x.count(10), 0);
        Due.is("the last", x.see(3, 3), true);
        Due.is("the first", x.see(0, 0), true);
        Due.is("two", x.count(10), 2);
    }

    private static void eightSeen() {
        Due.by(27, "8 at most; false: 8 there are");
        CellarTurns x = Told.eightThere("");
        for (int i = 0; i < 8; i++) {
            Due.is("see " + i, x.see(i, i), true);
            Due.is("seen", x.count(10), i + 1);
        }
        Due.is("a ninth", x.see(0, 0), false);
        Due.is("others", x.see(-1, 0), false);
        Due.is("eight", x.count(10), 8);
        Due.is("a row that fits all eight can't be", x.rows(1), 0);
        CellarTurns y = cellar(Told.THREE);
        for (int i = 0; i < 8; i++) {
            Due.is("the same again", y.see(1, 2), true);
        }
        Due.is("a ninth", y.see(1, 2), false);
        Due.is("the ninth does not count", y.see(0, 1), false);
        Due.is("b c alone", y.rows(1), 1);
        CellarTurns z = Told.eightThere("");
        z.see(7, 0);
        for (int i = 1; i < 7; i++) {
            z.see(i, i);
        }
        z.see(0, 7);
        Due.is("all eight hold: only a h", z.rows(1), 1);
    }

    // Promise 28

    private static void turnsOfRows() {
        Due.by(28, "just so many (1 to 3) TURNS; NONE: others");
        CellarTurns x = Told.eightThere("");
        Due.is("one", x.rows(1), 28);
        Due.is("two", x.rows(2), 28 * 27);
        Due.is("three", x.rows(3), 28 * 27 * 26);
        for (int turns : new int[] {0, -1, -2, 4, 5, MOST, LEAST}) {
            Due.is("rows " + turns, x.rows(turns), NONE);
        }
        String ahead = Told.state(x);
        x.rows(3);
        Due.same("nothing was done", Told.state(x), ahead);
    }

    private static void rowsOfSeen() {
        Due.by(28, "ROWS from now by which all SEEN is so: how many");
        CellarTurns x = cellar(Told.TWO);
        Due.is("one", x.rows(1), 1);
        Due.is("two can't be", x.rows(2), 0);
        x.see(0, 1);
        Due.is("so", x.rows(1), 1);
        x.see(1, 1);
        Due.is("not all is so", x.rows(1), 0);
        CellarTurns y = cellar(Told.THREE);
        y.see(0, 0);
        // Behind two: a has his own in no row of two different pairs.
        Due.is("b c", y.rows(1), 1);
        Due.is("none of two", y.rows(2), 0);
        // Behind three: x y, x z or y z last: it is the one in the middle that is left.
        Due.is("two of three", y.rows(3), 2);
        y.turn(0, 1);
        Due.is("from now: none of one brings a's back", y.rows(1), 0);
        y.undo();
        Due.is("undone", y.rows(1), 1);
        CellarTurns ring = cellar(Told.THREE + "ring a b;");
        ring.see(0, 0);
        Due.is("behind those TURNS, not now", ring.rows(1), 1);
    }

    // Promise 29

    private static int pair(CellarTurns x, int turns, int one, int other) {
        try {
            return x.pair(turns, one, other);
        } catch (NoSuchElementException e) {
            return THROWN;
        }
    }

    private static void pairsOfOthers() {
        Due.by(29, "NoSuchElementException: others, the same");
        CellarTurns x = cellar(Told.FOUR);
        String ahead = Told.state(x);
        for (int turns : new int[] {0, -1, -2, 4, 5, MOST, LEAST}) {
            Due.is("turns " + turns, pair(x, turns, 0, 1), THROWN);
        }
        for (int other : NO_BODIES) {
            Due.is("one " + other, pair(x, 1, other, 0), THROWN);
            Due.is("other " + other, pair(x, 1, 0, other), THROWN);
        }
        Due.is("one beyond", pair(x, 1, 0, 4), THROWN);
        Due.is("one beyond", pair(x, 1, 4, 0), THROWN);
        for (int body = 0; body < 4; body++) {
            Due.is("the same " + body, pair(x, 1, body, body), THROWN);
        }
        Due.same("nothing was done", Told.state(x), ahead);
        Due.is("the last", pair(x, 1, 3, 2), 1);
        for (int turns = 1; turns <= 3; turns++) {
            Due.is("turns " + turns, pair(x, turns, 0, 3), 1);
        }
    }

    private static void noRow() {
        Due.by(29, "NoSuchElementException: no ROW");
        CellarTurns x = cellar(Told.TWO);
        Due.is("one row", pair(x, 1, 0, 1), 2);
        Due.is("two can't be", pair(x, 2, 0, 1), THROWN);
        x.see(0, 0);
        Due.is("none fits", pair(x, 1, 0, 1), THROWN);
        Due.is("none may", pair(cellar("person i ill; person j plain;"), 1, 0, 1), THROWN);
    }

    private static void pairInAllSomeOrNone() {
        Due.by(29, "2: in all, 1: in some, 0: in none");
        CellarTurns x = cellar(Told.THREE + "new n price 1; person d plain; bar a d; bar b d; bar c d;");
        Due.is("one of three", pair(x, 1, 0, 1), 1);
        Due.is("two of three", pair(x, 2, 1, 2), 1);
        Due.is("all of three", pair(x, 3, 2, 0), 2);
        Due.is("a bar", pair(x, 3, 0, 4), 0);
        Due.is("not there", pair(x, 3, 0, 3), 0);
        x.see(2, 1);
        Due.is("b c in all", pair(x, 1, 2, 1), 2);
        Due.is("a b in none", pair(x, 1, 0, 1), 0);
        Due.is("what has been is in none", pair(cellar(Told.THREE + "been a b;"), 1, 0, 1), 0);
        CellarTurns eight = Told.eightThere("");
        eight.see(6, 7);
        Due.is("the last of eight", pair(eight, 1, 7, 6), 2);
        Due.is("the first of eight", pair(eight, 1, 0, 1), 0);
        Due.is("the first of eight, by two", pair(eight, 2, 0, 1), 1);
    }

    // Promise 30

    private static void turnsOfLook() {
        Due.by(30, "LOOK for so many TURNS (1 to 3); NONE: others");
        CellarTurns x = cellar(Told.FOUR);
        for (int turns = 1; turns <= 3; turns++) {
            Due.is("look " + turns, x.look(turns), 0);
        }
        for (int turns : new int[] {0, -1, -2, 4, 5, MOST, LEAST}) {
            Due.is("look " + turns, x.look(turns), NONE);
        }
        String ahead = Told.state(x);
        x.look(3);
        Due.same("nothing was done", Told.state(x), ahead);
    }

    private static void nothingPartsThem() {
        Due.by(30, "if it is less than all; NONE: none parts them");
        Due.is("one row", cellar(Told.TWO).look(1), NONE);
        Due.is("no row", cellar(Told.TWO).look(2), NONE);
        CellarTurns x = cellar(Told.FOUR + "bar a c; bar a d; bar b c; bar b d;");
        // a b then c d, or c d then a b: the same minds by both.
        Due.is("one turn: a or c tell", x.look(1), 0);
        Due.is("two: nobody tells", x.look(2), NONE);
        CellarTurns y = cellar(Told.THREE);
        y.see(1, 0);
        Due.is("what was SEEN leaves one", y.look(1), NONE);
    }

    private static void firstLook() {
        Due.by(30, "the greatest number of such ROWS with like minds in it is the least; of equal ones the first");
        Due.is("all alike", cellar(Told.FOUR).look(1), 0);
        // Rows a c, a d, b c, b d, c d: a and b have their own in three, c and d in two.
        Due.is("c", cellar(Told.FOUR + "bar a b;").look(1), 2);
        // Rows a d, b c, b d, c d: d never has the same twice.
        Due.is("d", cellar(Told.FOUR + "bar a b; bar a c;").look(1), 3);
        // Rows a b, a c, a d: a never has the same twice.
        Due.is("a", cellar(Told.FOUR + "bar b c; bar b d; bar c d;").look(1), 0);
    }

    private static void lookAtThoseThere() {
        Due.by(30, "the BODY there");
        CellarTurns x = cellar("new n price 1; person a plain; person b plain; person c plain;");
        Due.is("n is not there", x.look(1), 1);
        x.fetch(0);
        Due.is("n is there", x.look(1), 0);
        CellarTurns ill = cellar("person i ill; person a plain; person b plain; person c plain;");
        Due.is("an ill one tells nothing", ill.look(1), 1);
        CellarTurns cat = cellar("person k cat; person b plain; person c plain;");
        Due.is("a cat does", cat.look(1), 0);
        Due.is("eight there", Told.eightThere("").look(1), 0);
        CellarTurns last = Told.eightThere("often 1;");
        last.turn(0, 1);
        last.turn(2, 3);
        last.turn(4, 6);
        Due.is("only f h are left: one row", last.look(1), NONE);
        last.undo();
        // e f, e g, e h, f g, f h, g h are left.
        Due.is("four are left", last.look(1), 4);
    }

    // Promise 31

    private static final String ONE_TURN = Told.TWO + "ring a b; costs 7;";

    private static void seedsOfEvenings() {
        Due.by(31, "a SEED (0 to 9999); NONE: others");
        CellarTurns x = cellar(ONE_TURN);
        for (int seed : new int[] {0, 1, 9998, 9999}) {
            Due.is("seed " + seed, x.evenings(seed, 1, 2), 7);
        }
        for (int seed : new int[] {-1, -2, 10000, 10001, MOST, LEAST}) {
            for (int what = 0; what <= 2; what++) {
                Due.is("seed " + seed, x.evenings(seed, 1, what), NONE);
            }
        }
    }

    private static void manyEvenings() {
        Due.by(31, "so many (1 to 50); NONE: others");
        CellarTurns x = cellar(ONE_TURN);
        for (int many : new int[] {1, 2, 49, 50}) {
            Due.is("none wrong of " + many, x.evenings(3, many, 1), many);
            Due.is("costs of " + many, x.evenings(3, many, 2), 7 * many);
        }
        for (int many : new int[] {0, -1, 51, 52, MOST, LEAST}) {
            for (int what = 0; what <= 2; what++) {
                Due.is("many " + many, x.evenings(3, many, what), NONE);
            }
        }
    }

    private static void whatOfEvenings() {
        Due.by(31, "what 0: WRONG, 1: none WRONG, 2: costs; NONE: others");
        CellarTurns x = cellar(Told.TWO + "costs 7;");
        Due.is("wrong", x.evenings(3, 5, 0), 10);
        Due.is("none wrong", x.evenings(3, 5, 1), 0);
        Due.is("costs", x.evenings(3, 5, 2), 35);
        for (int what : new int[] {-1, -2, 3, 4, MOST, LEAST}) {
            Due.is("what " + what, x.evenings(3, 5, what), NONE);
        }
    }

    private static void sixTurnsAnEvening() {
        Due.by(31, "six times, if two MAY");
        String[] people = {"person a plain;", Told.TWO, Told.THREE, Told.FOUR, Told.SIX};
        int[] turns = {0, 1, 3, 6, 6};
        for (int i = 0; i < people.length; i++) {
            CellarTurns x = cellar(people[i] + "costs 1;");
            Due.is("one evening", x.evenings(11, 1, 2), turns[i]);
            Due.is("fifty", x.evenings(11, 50, 2), 50 * turns[i]);
        }
        CellarTurns dear = cellar(Told.SIX + "costs 9999;");
        Due.is("the most there is", dear.evenings(9999, 50, 2), 50 * 6 * 999);
        CellarTurns five = Told.cellar(Told.FOUR + "been a b; costs 1;");
        Due.is("five pairs", five.evenings(11, 1, 2), 5);
        CellarTurns seven = Told.cellar(Told.FOUR + "person e plain; bar a b; bar a c; bar a d; costs 1;");
        Due.is("seven pairs", seven.evenings(11, 1, 2), 6);
    }

    /** Plays one evening on a new object by may and turn alone; adds up WRONG, none WRONG, costs. */
    private static long playEvening(String text, long seed, int[] sums) {
        CellarTurns x = cellar(text);
        int bodies = x.count(0);
        long g = seed;
        for (int i = 0; i < 6; i++) {
            int[] pairs = new int[28];
            int many = 0;
            for (int one = 0; one < bodies; one++) {
                for (int other = one + 1; other < bodies; other++) {
                    if (x.may(one, other)) {
                        pairs[many++] = 8 * one + other;
                    }
                }
            }
            if (many > 0) {
                g = Math.floorMod(g * 1103515245L + 12345L, 2147483648L);
                int drawn = pairs[(int) (g / 65536 % many)];
                x.turn(drawn / 8, drawn % 8);
            }
        }
        sums[0] += x.count(5);
        sums[1] += x.count(5) == 0 ? 1 : 0;
        sums[2] += x.count(6);
        return g;
    }

    private static void drawsOfEvenings() {
        Due.by(31, "a DRAW below how many pairs MAY tells one: g is the SEED at first, and goes on");
        String[] texts = {Told.SIX + "ring a b c; ring d e; costs 3 * wrong + met;", Told.THREE + "ring a b;",
            "person a shy; person b cat; person c plain; person d ill; person e plain; been a e; ring a b c d;"};
        for (String text : texts) {
            for (int seed : new int[] {0, 1, 77, 5000, 9999}) {
                for (int many : new int[] {1, 2, 13, 50}) {
                    CellarTurns x = cellar(text);
                    int[] sums = new int[3];
                    long g = seed;
                    for (int i = 0; i < many; i++) {
                        g = playEvening(text, g, sums);
                    }
                    for (int what = 0; what <= 2; what++) {
                        Due.is("seed " + seed + ", many " + many + ", what " + what, x.evenings(seed, many, what), sums[what]);
                    }
                }
            }
        }
        // Of SEED 1 is g 1103527590: 16838 below 3 is 2: b c. Of SEED 0 it is 12345: 0 below 3 is 0: a b.
        CellarTurns x = cellar(Told.THREE + "often 1; costs wrong;");
        Due.is("b c", x.evenings(1, 1, 0), 2);
        CellarTurns y = cellar(Told.THREE + "often 1; ring b c;");
        Due.is("b c leaves none", y.evenings(1, 1, 1), 1);
        Due.is("a b does not", y.evenings(0, 1, 1), 0);
    }

    private static void allIsAsAhead() {
        Due.by(31, "each from now on (all is as ahead then)");
        CellarTurns x = cellar(Told.SIX + "new n price 500; ring a b; costs 10 + turns;");
        x.fetch(6);
        x.turn(0, 1);
        x.see(0, 0);
        String ahead = Told.state(x);
        // Six turns that cost 11, 12, 13, 14, 15, 16: what was spent ahead is not theirs.
        Due.is("costs", x.evenings(4, 2, 2), 2 * 81);
        Due.same("the state", Told.state(x), ahead);
        Due.is("the same calls, the same answers", x.evenings(4, 2, 2), 162);
        Due.is("undo", x.undo(), true);
    }

    // Promise 32

    private static void marksNoughtToThree() {
        Due.by(32, "MARKS 0 to 3; false: none such");
        CellarTurns x = cellar(Told.SIX);
        for (int mark : new int[] {-1, -2, 4, 5, 32, 64, MOST, LEAST}) {
            Due.is("lay " + mark, x.mark(mark, false), false);
            Due.is("back to " + mark, x.mark(mark, true), false);
        }
        for (int mark = 0; mark < 4; mark++) {
            x.turn(0, mark + 1);
            Due.is("lay " + mark, x.mark(mark, false), true);
        }
        for (int mark : new int[] {-1, 4, 32, 35, MOST, LEAST}) {
            Due.is("back to " + mark + ", still", x.mark(mark, true), false);
        }
        Due.is("nothing was done", x.count(3) * 10 + x.count(11), 44);
        for (int mark = 3; mark >= 0; mark--) {
            Due.is("back to " + mark, x.mark(mark, true), true);
            Due.is("its turn", x.count(3), mark + 1);
        }
        Due.is("and forth", x.mark(2, true), true);
        Due.is("its turn", x.count(3), 3);
    }

    private static void nothingOnAMark() {
        Due.by(32, "false: nothing is on it (back)");
        CellarTurns x = cellar(Told.THREE);
        x.turn(0, 1);
        for (int mark = 0; mark < 4; mark++) {
            Due.is("back to " + mark, x.mark(mark, true), false);
        }
        Due.is("all is as it was", x.count(3) * 10 + x.count(11), 11);
        x.mark(1, false);
        Due.is("ahead of it", x.mark(0, true), false);
        Due.is("behind it", x.mark(2, true), false);
        Due.is("it", x.mark(1, true), true);
        CellarTurns nobody = new CellarTurns();
        Due.is("of nobody", nobody.mark(3, false), true);
        Due.is("back to nobody", nobody.mark(3, true), true);
    }

    private static void whatAMarkHolds() {
        Due.by(32, "hold the turn, minds, pairs, who has sat, is there, costs, SEEN (nothing can be undone then)");
        CellarTurns x = cellar(Told.FOUR + "new n price 30; new m price 4; ring a b; been c d; costs 5;");
        x.turn(0, 2);
        x.fetch(4);
        x.see(0, 1);
        x.mark(0, false);
        String ahead = Told.state(x);
        x.round(0, 1, 3);
        x.fetch(5);
        x.turn(4, 5);
        x.see(1, 1);
        x.see(2, 1);
        Due.is("what can be undone", x.count(11), 5);
        Due.is("back", x.mark(0, true), true);
        // Two could be undone when it was laid, and nothing can be now.
        Due.same("the state", Told.state(x), ahead.replaceFirst(",2,0;", ",0,0;"));
        Due.is("undo", x.undo(), false);
        Due.is("may again", x.may(0, 1), true);
        Due.is("m is not there", x.may(0, 5), false);
        Due.is("what was SEEN then: one", x.rows(1), rowsOfOneSeen());
        x.turn(0, 1);
        Due.is("what is done since can be undone", x.undo(), true);
        Due.is("and no more", x.undo(), false);
    }

    private static int rowsOfOneSeen() {
        CellarTurns x = cellar(Told.FOUR + "new n price 30; new m price 4; ring a b; been c d; costs 5;");
        x.turn(0, 2);
        x.fetch(4);
        x.see(0, 1);
        return x.rows(1);
    }

    private static void whatAMarkDoesNotHold() {
        Due.by(32, "hold the turn, minds, pairs, who has sat, is there, costs, SEEN: not the EVENING, nor the TAPE");
        CellarTurns x = cellar(Told.THREE);
        x.mark(0, false);
        Told.feed(x, "turn a b; turn a c;");
        x.evening();
        x.feed(32, 0, 0);
        x.mark(0, true);
        Due.is("lines", x.count(9), 2);
        Due.is("signs", x.count(12), 1);
        Due.is("judged", x.judged(1), 3);
    }

    private static void marksStayAndGo() {
        Due.by(32, "A MARK is laid, again where one is; no MARK is there behind a new CELLAR");
        CellarTurns x = cellar(Told.SIX);
        x.mark(0, false);
        x.turn(0, 1);
        Due.is("laid again", x.mark(0, false), true);
        x.turn(0, 2);
        Due.is("back", x.mark(0, true), true);
        Due.is("to the later", x.count(3), 1);
        x.turn(0, 3);
        Due.is("back once more", x.mark(0, true), true);
        Due.is("it stays", x.count(3), 1);
        Told.feed(x, "?");
        x.cellar();
        Due.is("a fault leaves it", x.mark(0, true), true);
        Told.feed(x, Told.TWO);
        x.cellar();
        Due.is("a new cellar does not", x.mark(0, true), false);
        CellarTurns y = cellar(Told.TWO);
        y.turn(0, 1);
        y.mark(0, false);
        y.undo();
        Due.is("undo leaves it", y.mark(0, true), true);
        Due.is("with the turn that was undone", y.count(3), 1);
    }

    // Promise 33

    private static void othersOfCount() {
        Due.by(33, "NONE for another what");
        CellarTurns x = cellar(Told.SIX + "new g price 1;");
        for (int what : new int[] {-1, -2, 13, 14, 32, MOST, LEAST}) {
            Due.is("count " + what, x.count(what), NONE);
            Due.is("count " + what + " of nobody", new CellarTurns().count(what), NONE);
        }
        for (int what = 0; what <= 12; what++) {
            Due.is("count " + what, x.count(what) >= 0, true);
        }
    }

    private static void leastAndMostOfCount() {
        Due.by(33, "What 0: BODIES .. 12: signs on the TAPE, from none to as many as can be");
        StringBuilder pairs = new StringBuilder();
        for (char one = 'a'; one <= 'f'; one++) {
            for (char other = (char) (one + 1); other <= 'f'; other++) {
                pairs.append("been ").append(one).append(' ').append(other).append(';');
                pairs.append("bar ").append(other).append(' ').append(one).append(';');
            }
        }
        CellarTurns x = cellar(Told.SIX + "new g price 999; new h price 999; ring a b c d e f; often 1;" + pairs);
        Told.feed(x, "fetch g;".repeat(30));
        x.evening();
        x.fetch(6);
        x.fetch(7);
        Due.is("all eight wrong but g and h", x.count(5), 6);
        x.turn(0, 6);
        Due.is("eight wrong", x.turn(1, 7), 8);
        for (int i = 0; i < 9; i++) {
            x.see(0, 0);
        }
        Told.feed(x, "?".repeat(1008));
        int[] want = {8, 2, 8, 2, 17, 8, 999 + 999 + 7 + 8, 1, 15, 30, 8, 4, 1000};
        for (int what = 0; what <= 12; what++) {
            Due.is("count " + what, x.count(what), want[what]);
        }
    }
}
