/** Promises 5 to 20: each sentence that names a boundary of what is asked and done by hand. */
public final class BoundariesByHandTest {
    private static final int NONE = CellarTurns.NONE;
    private static final int LEAST = Integer.MIN_VALUE;
    private static final int MOST = Integer.MAX_VALUE;
    // None of these is a BODY, whatever CELLAR there is; some would be one if only their low bits counted.
    private static final int[] NO_BODIES = {-1, -8, 8, 9, 16, 32, 64, 256, 1 << 16, MOST, LEAST, LEAST + 1};

    private BoundariesByHandTest() {
    }

    public static void main(String[] args) {
        whatOfABody();
        othersThanBodies();
        priceOfOthers();
        catsAreNeverWrong();
        wrongOfEachBody();
        satOfABody();
        othersThanMinds();
        mindsOfThoseNotThere();
        theIllMayNot();
        barsMayNot();
        pairsThatHaveBeenMayNot();
        oftenMayNot();
        theShyMayTwice();
        onlyThoseThere();
        othersMayNot();
        turnsThatCantBe();
        wrongBehindATurn();
        costOfATurn();
        mindsOfARound();
        roundsOfEachTwo();
        roundsOfThoseWhoMaySit();
        theShyOfARound();
        roundsThatCantBe();
        countsOfARound();
        fetchesThatCantBe();
        fetchesAndPrices();
        nothingToUndo();
        seenIsNotUndone();
        sixteenToUndo();
        undoGoesRoundAndRound();
        undoTakesAllBack();
        whatElseEndsUndo();
        whatOfJudged();
        firstLineThatCantBe();
        linesLeftOut();
        judgedFromTheBegin();
        whatOfRings();
        noRings();
        longestRing();
        oddOrEven();
        pairsLeft();
        whatOfEnough();
        orderOfEnough();
        xWithYBehindOddRings();
        enoughLeavesKindsAside();
        homeOfOthers();
        homeForGood();
        metOfOthers();
        metOfAll();
        readyLikeARound();
        readyChangesNothing();
        noBest();
        firstBest();
        bestMustBeATurn();
        turnsOfMost();
        mostBehindJustSoMany();
        mostThatCantBe();
        Due.close(5, 20);
    }

    private static CellarTurns cellar(String text) {
        return Told.cellar(text);
    }

    // Promise 5

    private static void whatOfABody() {
        Due.by(5, "what 0 .. 6; NONE: others");
        CellarTurns x = cellar("person a shy; new n price 12; person c cat; ring a c;");
        int[][] want = {{2, 0, 0, 1, 2, 0, 1}, {0, 1, 12, 0, 1, 0, 0}, {3, 0, 0, 1, 0, 0, 0}};
        for (int body = 0; body < 3; body++) {
            for (int what = 0; what <= 6; what++) {
                Due.is("body " + body + " " + what, x.body(body, what), want[body][what]);
            }
            for (int what : new int[] {-1, -2, 7, 8, MOST, LEAST}) {
                Due.is("body " + body + " " + what, x.body(body, what), NONE);
            }
        }
    }

    private static void othersThanBodies() {
        Due.by(5, "Of a BODY; NONE: others");
        CellarTurns x = cellar(Told.THREE);
        CellarTurns full = Told.eightThere("");
        for (int what = 0; what <= 6; what++) {
            Due.is("the first one that is none " + what, x.body(3, what), NONE);
            Due.is("the last one " + what, x.body(2, what) == NONE, false);
            Due.is("the last of eight " + what, full.body(7, what) == NONE, false);
        }
        for (int body : NO_BODIES) {
            Due.is("body " + body, full.body(body, 0), NONE);
            Due.is("body " + body, full.body(body, 4), NONE);
        }
    }

    private static void priceOfOthers() {
        Due.by(5, "2: price (0 of others)");
        CellarTurns x = cellar("new n price 999; person a plain;");
        Due.is("of a new one", x.body(0, 2), 999);
        Due.is("of another", x.body(1, 2), 0);
        Told.feed(x, "person a plain; new n price 3;");
        x.cellar();
        Due.is("of another where a new one was", x.body(0, 2), 0);
        Due.is("of a new one where another was", x.body(1, 2), 3);
        x.fetch(1);
        Due.is("of a new one there", x.body(1, 2), 3);
    }

    private static void catsAreNeverWrong() {
        Due.by(5, "6: 1 WRONG; a cat's never is");
        CellarTurns x = cellar("person a plain; person k cat; person l cat; ring a k l;");
        Due.is("who has a cat's mind is", x.body(0, 6), 1);
        Due.is("a cat with another's is not", x.body(1, 6), 0);
        Due.is("a cat with a cat's is not", x.body(2, 6), 0);
        Due.is("in all", x.count(5), 1);
        Due.is("an ill one is", cellar("person a ill; person b shy; ring a b;").count(5), 2);
    }

    private static void wrongOfEachBody() {
        Due.by(5, "6: 1 WRONG: from the first BODY to the last, a new one, too");
        CellarTurns x = Told.eightThere("ring a c; ring d f;");
        int[] told = {1, 0, 1, 1, 0, 1, 0, 0};
        for (int body = 0; body < told.length; body++) {
            Due.is("told " + body, x.body(body, 6), told[body]);
        }
        x.turn(1, 7);
        x.turn(0, 2);
        int[] then = {0, 1, 0, 1, 0, 1, 0, 1};
        for (int body = 0; body < then.length; body++) {
            Due.is("then " + body, x.body(body, 6), then[body]);
        }
    }

    private static void satOfABody() {
        Due.by(5, "5: how often it has sat (nobody has sat, of pairs been as told)");
        CellarTurns x = cellar(Told.FOUR + "been a b;");
        Due.is("told", x.body(0, 5), 0);
        x.turn(0, 2);
        Due.is("once", x.body(0, 5), 1);
        Due.is("once", x.body(2, 5), 1);
        Due.is("not", x.body(1, 5), 0);
        x.round(1, 2, 3);
        Due.is("twice more", x.body(2, 5), 3);
        Due.is("twice", x.body(1, 5), 2);
        Due.is("twice", x.body(3, 5), 2);
    }

    // Promise 6

    private static void othersThanMinds() {
        Due.by(6, "In which BODY a mind is; NONE: others");
        CellarTurns x = cellar(Told.SIX + "ring f a;");
        Due.is("the first", x.mind(0), 5);
        Due.is("the last", x.mind(5), 0);
        Due.is("one beyond", x.mind(6), NONE);
        CellarTurns full = Told.eightThere("");
        full.turn(0, 7);
        Due.is("of eight", full.mind(7), 0);
        Due.is("of eight", full.mind(0), 7);
        for (int mind : NO_BODIES) {
            Due.is("mind " + mind, x.mind(mind), NONE);
            Due.is("mind " + mind + " of eight", full.mind(mind), NONE);
        }
    }

    private static void mindsOfThoseNotThere() {
        Due.by(6, "minds as told (others at home): a new one's, too");
        CellarTurns x = cellar("new n price 1; person a plain; person b plain; ring a b;");
        Due.is("n's", x.mind(0), 0);
        Due.is("a's", x.mind(1), 2);
        Due.is("b's", x.mind(2), 1);
    }

    // Promise 7

    private static void eitherMay(String call, CellarTurns x, int one, int other, boolean want) {
        Due.is(call, x.may(one, other), want);
        Due.is(call + ", the other way", x.may(other, one), want);
    }

    private static void theIllMayNot() {
        Due.by(7, "MAY if neither is ill");
        CellarTurns x = cellar("person a plain; person i ill; person k cat; person s shy; person j ill;");
        eitherMay("a plain one and an ill one", x, 0, 1, false);
        eitherMay("two ill ones", x, 1, 4, false);
        eitherMay("a plain one and a cat", x, 0, 2, true);
        eitherMay("a cat and a shy one", x, 2, 3, true);
    }

    private static void barsMayNot() {
        Due.by(7, "they do not bar each other");
        CellarTurns x = cellar(Told.THREE + "bar c a;");
        eitherMay("they do", x, 0, 2, false);
        eitherMay("they do not", x, 0, 1, true);
        eitherMay("they do not", x, 1, 2, true);
        x.turn(0, 1);
        eitherMay("they still do", x, 0, 2, false);
    }

    private static void pairsThatHaveBeenMayNot() {
        Due.by(7, "the pair has not been");
        CellarTurns x = cellar(Told.FOUR + "been b a;");
        eitherMay("told", x, 0, 1, false);
        x.turn(2, 0);
        eitherMay("by a turn", x, 0, 2, false);
        x.round(1, 2, 3);
        eitherMay("by a round", x, 1, 2, false);
        eitherMay("by a round", x, 2, 3, false);
        eitherMay("by a round", x, 1, 3, false);
        eitherMay("not yet", x, 0, 3, true);
        x.undo();
        eitherMay("undone", x, 1, 3, true);
    }

    private static void oftenMayNot() {
        Due.by(7, "both have sat less than often");
        for (int often = 1; often <= 5; often++) {
            CellarTurns x = cellar(Told.SIX + "new g price 0; often " + often + ";");
            x.fetch(6);
            for (int turn = 1; turn <= often; turn++) {
                eitherMay("often " + often + ", ahead of turn " + turn, x, 0, turn, true);
                x.turn(0, turn);
            }
            eitherMay("often " + often + ", behind all", x, 0, often + 1, false);
        }
        CellarTurns nine = Told.eightThere("");
        for (int other = 1; other < 8; other++) {
            Due.is("nine are never reached", nine.may(0, other), true);
            nine.turn(0, other);
        }
        CellarTurns round = cellar(Told.FOUR + "often 2;");
        round.round(0, 1, 2);
        eitherMay("a round is twice", round, 0, 3, false);
    }

    private static void theShyMayTwice() {
        Due.by(7, "a shy one less than 2 times, too");
        CellarTurns x = cellar(Told.THREE + "person s shy;");
        eitherMay("not sat", x, 3, 0, true);
        x.turn(3, 0);
        eitherMay("once", x, 3, 1, true);
        x.turn(1, 3);
        eitherMay("twice", x, 3, 2, false);
        eitherMay("others may", x, 0, 1, true);
        CellarTurns y = cellar(Told.TWO + "person s shy; often 1;");
        y.turn(2, 0);
        eitherMay("often 1 holds for the shy", y, 2, 1, false);
        CellarTurns z = cellar(Told.TWO + "person s shy; often 2;");
        z.turn(2, 0);
        eitherMay("often 2", z, 2, 1, true);
    }

    private static void onlyThoseThere() {
        Due.by(7, "BODIES there: all PEOPLE, new ones that were fetched");
        CellarTurns x = cellar(Told.TWO + "new n price 1; new m price 1;");
        eitherMay("not there", x, 0, 2, false);
        eitherMay("neither there", x, 2, 3, false);
        x.fetch(2);
        eitherMay("there", x, 0, 2, true);
        eitherMay("one there", x, 2, 3, false);
        x.fetch(3);
        eitherMay("both there", x, 2, 3, true);
        x.undo();
        eitherMay("not there again", x, 2, 3, false);
    }

    private static void othersMayNot() {
        Due.by(7, "Whether two MAY: not one with itself, not others");
        CellarTurns full = Told.eightThere("");
        CellarTurns x = cellar(Told.THREE);
        for (int body = 0; body < 8; body++) {
            Due.is("the same " + body, full.may(body, body), false);
        }
        for (int body : NO_BODIES) {
            eitherMay("0 and " + body, full, 0, body, false);
            eitherMay("7 and " + body, full, 7, body, false);
            Due.is("the same " + body, full.may(body, body), false);
        }
        eitherMay("one beyond", x, 0, 3, false);
        eitherMay("the last", x, 0, 2, true);
    }

    // Promise 8

    private static void turnsThatCantBe() {
        Due.by(8, "NONE: others, it can't be");
        CellarTurns x = cellar(Told.FOUR + "person i ill; person s shy; new n price 1; been a b; bar b c; often 3;");
        x.turn(0, 2);
        String ahead = Told.state(x);
        int[][] refused = {{0, 1}, {1, 0}, {0, 2}, {2, 0}, {1, 2}, {2, 1}, {0, 4}, {4, 0}, {0, 6}, {6, 0}, {0, 0},
            {3, 3}, {0, 7}, {7, 0}, {0, -1}, {-1, 0}, {0, 8}, {8, 0}, {MOST, 0}, {0, LEAST}, {LEAST, MOST}};
        for (int[] pair : refused) {
            Due.is("turn " + pair[0] + " " + pair[1], x.turn(pair[0], pair[1]), NONE);
        }
        Due.same("refused turns", Told.state(x), ahead);
        x.turn(0, 5);
        x.turn(5, 1);
        Due.is("a shy one's third", x.turn(5, 2), NONE);
        x.turn(0, 3);
        x.fetch(6);
        Due.is("one more than often", x.turn(0, 6), NONE);
        Due.is("turns", x.count(3), 4);
    }

    private static void wrongBehindATurn() {
        Due.by(8, "how many are WRONG then");
        CellarTurns x = cellar(Told.THREE + "person k cat; ring a b;");
        Due.is("none", x.turn(1, 0), 0);
        Due.is("one, with a cat", x.turn(0, 3), 1);
        Due.is("and another", x.turn(1, 3), 2);
        Due.is("and another", x.turn(2, 3), 3);
        CellarTurns y = cellar("person k cat; person l cat;");
        Due.is("cats alone", y.turn(0, 1), 0);
    }

    private static int costOf(String law) {
        CellarTurns x = cellar(Told.TWO + "costs " + law + ";");
        x.turn(0, 1);
        return x.count(6);
    }

    private static void costOfATurn() {
        Due.by(8, "costs the E of costs (0 to 999)");
        Due.is("0", costOf("0"), 0);
        Due.is("less than 0", costOf("0 - 1"), 0);
        Due.is("far less", costOf("0 - 9999 * 9999"), 0);
        Due.is("998", costOf("998"), 998);
        Due.is("999", costOf("999"), 999);
        Due.is("1000", costOf("1000"), 999);
        Due.is("far more", costOf("9999 * 9999"), 999);
        Due.is("the least int", costOf("256 * 256 * 256 * 128"), 0);
        Due.is("the greatest int", costOf("256 * 256 * 256 * 128 - 1"), 999);
        CellarTurns x = cellar(Told.SIX + "costs 5000;");
        x.turn(0, 1);
        x.turn(0, 2);
        Due.is("each by itself", x.count(6), 1998);
    }

    // Promise 9

    private static void mindsOfARound() {
        Due.by(9, "the first one's mind goes to the second one, the second one's to the third one, the third one's to the first");
        CellarTurns x = cellar(Told.THREE);
        Due.is("round", x.round(0, 1, 2), 3);
        Due.is("a's", x.mind(0), 1);
        Due.is("b's", x.mind(1), 2);
        Due.is("c's", x.mind(2), 0);
        CellarTurns y = cellar(Told.THREE);
        y.round(1, 0, 2);
        Due.is("the other way: b's", y.mind(1), 0);
        Due.is("a's", y.mind(0), 2);
        Due.is("c's", y.mind(2), 1);
        Due.is("undoes a ring", cellar(Told.THREE + "ring c b a;").round(0, 1, 2), 0);
        Due.is("or does not", cellar(Told.THREE + "ring a b c;").round(0, 1, 2), 3);
    }

    private static void noRoundIn(String why, CellarTurns x) {
        int[][] orders = {{0, 1, 2}, {0, 2, 1}, {1, 0, 2}, {1, 2, 0}, {2, 0, 1}, {2, 1, 0}};
        String ahead = Told.state(x);
        for (int[] order : orders) {
            Due.is(why + " " + order[0] + order[1] + order[2], x.round(order[0], order[1], order[2]), NONE);
        }
        Due.same(why, Told.state(x), ahead);
    }

    private static void roundsOfEachTwo() {
        Due.by(9, "three of whom each two MAY");
        for (String pair : new String[] {"a b", "a c", "b c"}) {
            noRoundIn("been " + pair, cellar(Told.THREE + "been " + pair + ";"));
            noRoundIn("bar " + pair, cellar(Told.THREE + "bar " + pair + ";"));
        }
        noRoundIn("a ill", cellar("person a ill; person b plain; person c plain;"));
        noRoundIn("b ill", cellar("person a plain; person b ill; person c plain;"));
        noRoundIn("c ill", cellar("person a plain; person b plain; person c ill;"));
        noRoundIn("c not there", cellar(Told.TWO + "new c price 1;"));
    }

    private static CellarTurns withOneWhoSat(int body, int times, int often) {
        CellarTurns x = cellar(Told.SIX + "often " + often + ";");
        for (int i = 0; i < times; i++) {
            x.turn(body, 3 + i);
        }
        return x;
    }

    private static void roundsOfThoseWhoMaySit() {
        Due.by(9, "each has sat at most two less than it may");
        noRoundIn("often 1", cellar(Told.THREE + "often 1;"));
        for (int body = 0; body < 3; body++) {
            for (int often = 2; often <= 4; often++) {
                CellarTurns x = withOneWhoSat(body, often - 2, often);
                Due.is("two less than " + often, x.round(0, 1, 2) == NONE, false);
                Due.is("is all of it then", x.body(body, 5), often);
                noRoundIn("one less than " + often, withOneWhoSat(body, often - 1, often));
            }
        }
    }

    private static void theShyOfARound() {
        Due.by(9, "a shy one so not at all");
        String shy = "person a plain; person b plain; person c shy; person d plain;";
        Due.is("not sat", cellar(shy).round(0, 1, 2), 3);
        Due.is("not sat, often 2", cellar(shy + "often 2;").round(0, 1, 2), 3);
        noRoundIn("often 1", cellar(shy + "often 1;"));
        CellarTurns once = cellar(shy);
        once.turn(3, 2);
        Due.is("though it may", once.may(0, 2) && once.may(1, 2), true);
        noRoundIn("sat once", once);
        CellarTurns all = cellar("person a shy; person b shy; person c shy; person d plain;");
        Due.is("all shy", all.round(2, 1, 0), 3);
        Due.is("then none may", all.left(), 0);
    }

    private static void roundsThatCantBe() {
        Due.by(9, "NONE: others, it can't be");
        CellarTurns x = cellar(Told.FOUR);
        String ahead = Told.state(x);
        int[][] same = {{0, 0, 1}, {0, 1, 0}, {1, 0, 0}, {2, 2, 2}};
        for (int[] three : same) {
            Due.is("the same", x.round(three[0], three[1], three[2]), NONE);
        }
        for (int body : NO_BODIES) {
            Due.is("first " + body, x.round(body, 0, 1), NONE);
            Due.is("second " + body, x.round(0, body, 1), NONE);
            Due.is("third " + body, x.round(0, 1, body), NONE);
        }
        Due.is("one beyond", x.round(0, 1, 4), NONE);
        Due.same("refused rounds", Told.state(x), ahead);
        Due.is("the last", x.round(1, 2, 3), 3);
    }

    private static void countsOfARound() {
        Due.by(9, "all three pairs have been, each has sat twice more; a turn more");
        CellarTurns x = cellar(Told.FOUR + "been a d; costs 400 * met + 5 * turns;");
        x.round(0, 1, 2);
        Due.is("turns", x.count(3), 1);
        Due.is("pairs", x.count(4), 4);
        Due.is("cost: one pair ahead", x.count(6), 400);
        Due.is("to undo", x.count(11), 1);
        int[] met = {14, 5, 3, 1};
        for (int body = 0; body < 4; body++) {
            Due.is("met " + body, x.met(body), met[body]);
            Due.is("sat " + body, x.body(body, 5), body < 3 ? 2 : 0);
        }
        x.turn(1, 3);
        Due.is("four pairs ahead come to 999", x.count(6), 1399);
    }

    // Promise 10

    private static void fetchesThatCantBe() {
        Due.by(10, "false: others, none new, there");
        CellarTurns x = cellar("person a plain; new n price 40; person b plain; new m price 2;");
        Due.is("fetch", x.fetch(1), true);
        String ahead = Told.state(x);
        Due.is("there", x.fetch(1), false);
        Due.is("none new", x.fetch(0), false);
        Due.is("none new", x.fetch(2), false);
        Due.is("one beyond", x.fetch(4), false);
        for (int body : NO_BODIES) {
            Due.is("fetch " + body, x.fetch(body), false);
        }
        for (int low = 1; low <= 3; low += 2) {
            Due.is("32 more is another", x.fetch(32 + low), false);
            Due.is("64 more is another", x.fetch(64 + low), false);
        }
        Due.same("refused", Told.state(x), ahead);
    }

    private static void fetchesAndPrices() {
        Due.by(10, "a new one who is not there is; costs his price");
        CellarTurns x = Told.cellar(Told.SIX + "new g price 0; new h price 999;");
        Due.is("for nothing", x.fetch(6), true);
        Due.is("cost", x.count(6), 0);
        Due.is("for most", x.fetch(7), true);
        Due.is("cost", x.count(6), 999);
        Due.is("eight there", x.count(2), 8);
        Due.is("no turn", x.count(3), 0);
        Due.is("undo", x.undo(), true);
        Due.is("his price is back", x.count(6), 0);
        Due.is("and he can be fetched again", x.fetch(7), true);
    }

    // Promise 11

    private static void nothingToUndo() {
        Due.by(11, "false: nothing can be");
        CellarTurns x = cellar(Told.TWO);
        Due.is("at first", x.undo(), false);
        Due.is("a turn that can't be", x.turn(0, 0), NONE);
        Due.is("a fetch that can't be", x.fetch(0), false);
        Due.is("a round that can't be", x.round(0, 1, 0), NONE);
        x.see(0, 0);
        x.mark(0, false);
        Due.is("none of these", x.undo(), false);
        x.turn(0, 1);
        Due.is("one", x.undo(), true);
        Due.is("and no more", x.undo(), false);
        Due.is("count", x.count(11), 0);
        Due.is("what was SEEN stays", x.count(10), 1);
    }

    private static void seenIsNotUndone() {
        Due.by(11, "UNDO: all of these: TURN, ROUND, FETCH; what was SEEN behind them stays");
        CellarTurns x = cellar(Told.FOUR + "new n price 2;");
        x.turn(0, 1);
        x.see(0, 2);
        x.round(1, 2, 3);
        x.see(2, 0);
        x.fetch(4);
        x.see(1, 1);
        for (int i = 0; i < 3; i++) {
            Due.is("undo", x.undo(), true);
            Due.is("SEEN", x.count(10), 3);
        }
        Due.is("a TURN that fits", x.rows(1), 1);
        Due.is("it is that of 0 and 2", x.pair(1, 0, 2), 2);
    }

    private static void playPairs(CellarTurns x, int from, int to) {
        int number = 0;
        for (int one = 0; one < 8; one++) {
            for (int other = one + 1; other < 8; other++) {
                if (number >= from && number < to) {
                    x.turn(one, other);
                }
                number++;
            }
        }
    }

    private static void sixteenToUndo() {
        Due.by(11, "all of these, the last 16, one by one");
        for (int many = 13; many <= 16; many++) {
            CellarTurns x = Told.eightThere("");
            playPairs(x, 0, many);
            // The two who were fetched count, too.
            int undone = Math.min(16, many + 2);
            Due.is("what can be undone of " + (many + 2), x.count(11), undone);
            for (int i = 1; i <= undone; i++) {
                Due.is("undo " + i, x.undo(), true);
                Due.is("what is left", x.count(11), undone - i);
            }
            Due.is("no more", x.undo(), false);
            Due.is("turns", x.count(3), 0);
            Due.is("there", x.count(2), 6 + Math.max(0, many - 14));
        }
        CellarTurns y = Told.eightThere("");
        playPairs(y, 0, 28);
        for (int i = 0; i < 16; i++) {
            y.undo();
        }
        Due.is("of 28 twelve are left", y.count(3), 12);
        Due.is("and not one of them can be undone", y.undo(), false);
        CellarTurns z = Told.eightThere("");
        playPairs(z, 0, 12);
        for (int body = 0; body < 8; body++) {
            Due.is("mind " + body, y.body(body, 4), z.body(body, 4));
            Due.is("met " + body, y.met(body), z.met(body));
        }
    }

    private static void undoGoesRoundAndRound() {
        Due.by(11, "the last 16: what comes anew takes the place of what was undone");
        CellarTurns x = Told.eightThere("");
        playPairs(x, 0, 20);
        for (int i = 0; i < 10; i++) {
            x.undo();
        }
        Due.is("six are left", x.count(11), 6);
        playPairs(x, 10, 18);
        Due.is("fourteen", x.count(11), 14);
        for (int i = 0; i < 14; i++) {
            Due.is("undo", x.undo(), true);
        }
        Due.is("no more", x.undo(), false);
        CellarTurns four = Told.eightThere("");
        playPairs(four, 0, 4);
        Due.is("four stand", x.count(3), 4);
        Due.is("cost", x.count(6), four.count(6));
        for (int body = 0; body < 8; body++) {
            Due.is("mind " + body, x.body(body, 4), four.body(body, 4));
            Due.is("sat " + body, x.body(body, 5), four.body(body, 5));
        }
        for (int i = 0; i < 40; i++) {
            x.turn(6, 7);
            Due.is("once more", x.undo(), true);
        }
        Due.is("four still", x.count(3), 4);
        Due.is("nothing to undo", x.count(11), 0);
    }

    private static void undoTakesAllBack() {
        Due.by(11, "UNDO: the turn, minds, pairs, who has sat, is there, what it cost");
        CellarTurns x = cellar(Told.FOUR + "person s shy; new n price 30; ring a b; been c d; often 4; costs 5 + turns;");
        x.see(2, 3);
        String[] states = new String[5];
        states[0] = Told.state(x);
        x.turn(0, 1);
        states[1] = Told.state(x);
        x.round(0, 2, 4);
        states[2] = Told.state(x);
        x.fetch(5);
        states[3] = Told.state(x);
        x.turn(5, 3);
        for (int i = 3; i >= 0; i--) {
            Due.is("undo", x.undo(), true);
            Due.same("undo " + i, Told.state(x), states[i]);
        }
    }

    private static void whatElseEndsUndo() {
        Due.by(11, "nothing can be undone behind a new CELLAR, nor when a MARK is gone back to");
        CellarTurns x = cellar(Told.THREE);
        x.mark(0, false);
        x.turn(0, 1);
        x.mark(1, false);
        Due.is("laying one leaves it", x.count(11), 1);
        x.mark(0, true);
        Due.is("going back does not", x.undo(), false);
        x.turn(0, 2);
        Told.feed(x, "?");
        x.cellar();
        Due.is("a faulty cellar leaves it", x.count(11), 1);
        Told.feed(x, "turn a b;");
        x.evening();
        Due.is("an evening leaves it", x.count(11), 1);
        Told.feed(x, Told.THREE);
        x.cellar();
        Due.is("a new cellar does not", x.undo(), false);
    }

    // Promise 12

    private static CellarTurns withEvening(String cellar, String evening) {
        CellarTurns x = cellar(cellar);
        Told.feed(x, evening);
        if (x.evening() != 0) {
            throw new IllegalStateException(evening);
        }
        return x;
    }

    private static void whatOfJudged() {
        Due.by(12, "what 0, 1, 2; -2: others");
        CellarTurns x = withEvening(Told.THREE + "ring a b;", "turn a c;");
        Due.is("0", x.judged(0), NONE);
        Due.is("1", x.judged(1), 3);
        Due.is("2", x.judged(2), 3);
        for (int what : new int[] {-1, -2, 3, 4, MOST, LEAST}) {
            Due.is("judged " + what, x.judged(what), -2);
        }
    }

    private static void firstLineThatCantBe() {
        Due.by(12, "the first line (from 0) that can't be (NONE: all can)");
        Due.is("no line", withEvening(Told.THREE, "").judged(0), NONE);
        Due.is("all can", withEvening(Told.THREE, "turn a b; turn a c;").judged(0), NONE);
        Due.is("the first", withEvening(Told.THREE + "been a b;", "turn a b; turn a b;").judged(0), 0);
        Due.is("the second of three", withEvening(Told.THREE, "turn a b; turn b a; turn a b;").judged(0), 1);
        String fifteen = "turn a b;turn a c;turn a d;turn a e;turn a f;turn b c;turn b d;turn b e;turn b f;turn c d;"
                + "turn c e;turn c f;turn d e;turn d f;turn e f;";
        String more = "fetch g;fetch h;turn a g;turn b g;turn c g;turn d g;turn e g;turn f g;turn a h;turn b h;turn c h;"
                + "turn d h;turn e h;turn f h;";
        String news = "new g price 1;new h price 1;";
        Due.is("the last of thirty", withEvening(Told.SIX + news, fifteen + more + "fetch g;").judged(0), 29);
        Due.is("all of thirty", withEvening(Told.SIX + news, fifteen + more + "turn g h;").judged(0), NONE);
        Due.is("a new one not there", withEvening(Told.TWO + news, "turn a g; fetch g; turn a g;").judged(0), 0);
        Due.is("fetched twice", withEvening(Told.TWO + news, "fetch g; fetch h; fetch g;").judged(0), 2);
        Due.is("a round", withEvening(Told.THREE, "turn a b; round a b c;").judged(0), 1);
    }

    private static void linesLeftOut() {
        Due.by(12, "lines that can't be are left out");
        CellarTurns x = withEvening(Told.THREE + "new n price 50; ring a b;", "round a b n; turn a b; turn a b; fetch n; turn c n;");
        Due.is("first", x.judged(0), 0);
        Due.is("those behind are played", x.judged(1), 2);
        Due.is("and cost", x.judged(2), 50 + 2);
        CellarTurns none = withEvening(Told.TWO + "bar a b; ring a b;", "turn a b; turn a b;");
        CellarTurns round = withEvening(Told.FOUR, "turn a b; round a b c; round a c d; round b c d;");
        // a b; then a c d: c's is in d, d's in a, b's in c.
        Due.is("a round left out", round.judged(0), 1);
        Due.is("a round played, and none behind it", round.judged(1), 4);
        Due.is("two and four", round.judged(2), 6);
        Due.is("a round that undoes all", withEvening(Told.THREE + "ring c b a;", "round a b c;").judged(1), 0);
        Due.is("the other way it does not", withEvening(Told.THREE + "ring c b a;", "round a c b;").judged(1), 3);
        Due.is("all left out", none.judged(1), 2);
        Due.is("cost nothing", none.judged(2), 0);
        CellarTurns twice = withEvening(Told.TWO + "new n price 50;", "fetch n; fetch n; turn a n; fetch n;");
        Due.is("who is there is not fetched again", twice.judged(0), 1);
        Due.is("nor paid for again", twice.judged(2), 50 + 2);
    }

    private static void judgedFromTheBegin() {
        Due.by(12, "the EVENING from the begin, whatever was done by hand");
        CellarTurns x = withEvening(Told.THREE + "new n price 9; ring a b; costs 10 + turns;", "turn a b; fetch n;");
        x.turn(0, 1);
        x.fetch(3);
        x.turn(1, 3);
        String ahead = Told.state(x);
        Due.is("all can", x.judged(0), NONE);
        Due.is("none wrong", x.judged(1), 0);
        Due.is("costs", x.judged(2), 19);
        Due.same("nothing was done", Told.state(x), ahead);
        CellarTurns empty = cellar(Told.THREE + "ring a b c;");
        empty.turn(0, 1);
        Due.is("without an evening: as told", empty.judged(1), 3);
        Due.is("without a cost", empty.judged(2), 0);
    }

    // Promise 13

    private static void whatOfRings() {
        Due.by(13, "what 0, 1, 2; NONE: others");
        CellarTurns x = cellar(Told.SIX + "ring a c e; ring b f;");
        Due.is("0", x.rings(0), 2);
        Due.is("1", x.rings(1), 3);
        Due.is("2", x.rings(2), 1);
        for (int what : new int[] {-1, -2, 3, 4, MOST, LEAST}) {
            Due.is("rings " + what, x.rings(what), NONE);
        }
    }

    private static void noRings() {
        Due.by(13, "BODIES of the longest (0: none)");
        CellarTurns x = cellar(Told.THREE + "new n price 1;");
        for (int what = 0; what < 3; what++) {
            Due.is("none told " + what, x.rings(what), 0);
        }
        x.turn(0, 1);
        Due.is("by a turn", x.rings(1), 2);
        CellarTurns y = cellar(Told.THREE + "ring a b;");
        Due.is("one", y.rings(0) * 100 + y.rings(1) * 10 + y.rings(2), 121);
        y.turn(0, 1);
        for (int what = 0; what < 3; what++) {
            Due.is("undone " + what, y.rings(what), 0);
        }
    }

    private static void longestRing() {
        Due.by(13, "RINGS: who are in others' BODIES, there (cats, too)");
        CellarTurns cats = cellar("person k cat; person l cat;person a plain; ring k l;");
        Due.is("cats", cats.rings(0), 1);
        Due.is("two", cats.rings(1), 2);
        CellarTurns eight = Told.eightThere("ring a b c d e f;");
        eight.turn(0, 6);
        Due.is("one of seven", eight.rings(0) * 10 + eight.rings(1), 17);
        eight.turn(6, 7);
        Due.is("one of eight", eight.rings(0) * 10 + eight.rings(1), 18);
        CellarTurns four = Told.eightThere("ring a b; ring c d; ring e f;");
        four.turn(6, 7);
        Due.is("four of two", four.rings(0) * 10 + four.rings(1), 42);
        CellarTurns later = cellar(Told.SIX + "ring a b; ring c d e f;");
        Due.is("the longest is the second", later.rings(1), 4);
        CellarTurns sooner = cellar(Told.SIX + "ring a b c d; ring e f;");
        Due.is("the longest is the first", sooner.rings(1), 4);
    }

    private static void oddOrEven() {
        Due.by(13, "whether an odd number of turns is needed to undo all (1: odd)");
        Due.is("two", cellar(Told.SIX + "ring a b;").rings(2), 1);
        Due.is("three", cellar(Told.SIX + "ring a b c;").rings(2), 0);
        Due.is("six", cellar(Told.SIX + "ring a b c d e f;").rings(2), 1);
        Due.is("two and two", cellar(Told.SIX + "ring a b; ring c d;").rings(2), 0);
        Due.is("two and three", cellar(Told.SIX + "ring a b; ring c d e;").rings(2), 1);
        Due.is("three of two", cellar(Told.SIX + "ring a b; ring c d; ring e f;").rings(2), 1);
        Due.is("two cats", cellar("person k cat; person l cat; ring k l;").rings(2), 1);
    }

    // Promise 14

    private static void pairsLeft() {
        Due.by(14, "How many pairs MAY now");
        Due.is("one body", cellar("person a plain;").left(), 0);
        Due.is("two", cellar(Told.TWO).left(), 1);
        Due.is("six", cellar(Told.SIX).left(), 15);
        Due.is("six, and new ones not there", cellar(Told.SIX + "new g price 1; new h price 1;").left(), 15);
        CellarTurns eight = Told.eightThere("");
        Due.is("eight", eight.left(), 28);
        playPairs(eight, 0, 27);
        Due.is("the last", eight.left(), 1);
        eight.turn(7, 6);
        Due.is("none", eight.left(), 0);
        CellarTurns x = cellar(Told.THREE + "person i ill; been a b; bar a c; often 1;");
        Due.is("only b c", x.left(), 1);
        x.turn(1, 2);
        Due.is("all have sat or may not", x.left(), 0);
    }

    // Promise 15

    private static void whatOfEnough() {
        Due.by(15, "what NONE: how many turns; i: the i-th one; -2: others");
        CellarTurns x = cellar(Told.THREE + "ring a b;");
        // In a is b's, in b is a's: X a, Y b, X b, Y a, X Y.
        int[] want = {80, 91, 81, 90, 89};
        Due.is("how many", x.enough(NONE), 5);
        for (int i = 0; i < want.length; i++) {
            Due.is("enough " + i, x.enough(i), want[i]);
        }
        for (int what : new int[] {-2, -3, 5, 6, MOST, LEAST}) {
            Due.is("enough " + what, x.enough(what), -2);
        }
        CellarTurns none = cellar(Told.THREE);
        Due.is("none", none.enough(NONE), 0);
        Due.is("no first", none.enough(0), -2);
        Due.same("nothing was done", Told.state(none), Told.state(cellar(Told.THREE)));
    }

    private static void orderOfEnough() {
        Due.by(15, "RINGS by their least BODIES, each on by the BODY of whose mind is in the last");
        CellarTurns x = cellar(Told.SIX + "ring f b; ring a c e;");
        // In a is e's, in e is c's, in c is a's; in b is f's.
        int[] want = {80, 84, 92, 82, 90, 81, 95, 85, 91};
        Due.is("how many", x.enough(NONE), want.length);
        for (int i = 0; i < want.length; i++) {
            Due.is("enough " + i, x.enough(i), want[i]);
        }
        CellarTurns eight = Told.eightThere("ring a b c d e f;");
        eight.turn(0, 6);
        eight.turn(6, 7);
        // In a is g's, in g is h's, in h is f's, in f is e's and so on down to b with a's.
        int[] all = {80, 86, 87, 85, 84, 83, 82, 91, 81, 90, 89};
        Due.is("one of eight", eight.enough(NONE), all.length);
        for (int i = 0; i < all.length; i++) {
            Due.is("of eight " + i, eight.enough(i), all[i]);
        }
    }

    private static void xWithYBehindOddRings() {
        Due.by(15, "behind all RINGS X with Y if how many there are is odd");
        CellarTurns one = cellar(Told.SIX + "ring a b c;");
        Due.is("one ring", one.enough(NONE), 6);
        Due.is("at last", one.enough(5), 89);
        CellarTurns two = cellar(Told.SIX + "ring a b; ring c d;");
        Due.is("two rings", two.enough(NONE), 8);
        Due.is("at last Y c", two.enough(7), 92);
        CellarTurns three = cellar(Told.SIX + "ring a b; ring c d; ring e f;");
        Due.is("three rings", three.enough(NONE), 13);
        Due.is("at last", three.enough(12), 89);
        CellarTurns four = Told.eightThere("ring a b; ring c d; ring e f;");
        four.turn(6, 7);
        Due.is("four rings", four.enough(NONE), 16);
        Due.is("at last Y g", four.enough(15), 96);
        Due.is("no more", four.enough(16), -2);
    }

    private static void enoughLeavesKindsAside() {
        Due.by(15, "kinds, bars, how often aside");
        CellarTurns x = cellar("person k cat; person i ill; person s shy; bar k i; bar k s; been i s; often 1; ring k i s;");
        // In k is s's, in s is i's, in i is k's.
        int[] want = {80, 82, 91, 81, 90, 89};
        Due.is("how many", x.enough(NONE), want.length);
        for (int i = 0; i < want.length; i++) {
            Due.is("enough " + i, x.enough(i), want[i]);
        }
    }

    // Promise 16

    private static void homeOfOthers() {
        Due.by(16, "HOME (0: it is there now); NONE: others");
        CellarTurns x = cellar(Told.THREE + "new n price 1; ring a b;");
        Due.is("at home", x.home(2), 0);
        Due.is("a new one", x.home(3), 0);
        Due.is("one beyond", x.home(4), NONE);
        CellarTurns eight = Told.eightThere("");
        eight.turn(0, 7);
        // X a, Y h, X h, Y a.
        Due.is("the last of eight", eight.home(7), 3);
        Due.is("the first of eight", eight.home(0), 4);
        for (int body : NO_BODIES) {
            Due.is("home " + body, x.home(body), NONE);
            Due.is("home " + body + " of eight", eight.home(body), NONE);
        }
        x.turn(0, 1);
        Due.is("then at home", x.home(0), 0);
    }

    private static void homeForGood() {
        Due.by(16, "behind how many of these its own mind is in it for good");
        CellarTurns x = cellar(Told.SIX + "ring a b c; ring d e;");
        // In a is c's, in c is b's, in b is a's: X a, X c, Y b, X b, Y a; X d, Y e, X e, Y d.
        int[] want = {5, 4, 2, 9, 8, 0};
        for (int body = 0; body < 6; body++) {
            Due.is("home " + body, x.home(body), want[body]);
        }
        CellarTurns cats = cellar("person k cat; person l cat; ring k l;");
        Due.is("a cat's, too", cats.home(0), 4);
        Due.is("a cat's, too", cats.home(1), 3);
    }

    // Promise 17

    private static void metOfOthers() {
        Due.by(17, "MET, as bits; NONE: others");
        CellarTurns x = cellar(Told.FOUR + "new n price 1; been d a; bar a b;");
        Due.is("as told", x.met(0), 8);
        Due.is("as told", x.met(3), 1);
        Due.is("a bar is none", x.met(1), 0);
        Due.is("a new one not there", x.met(4), 0);
        Due.is("one beyond", x.met(5), NONE);
        for (int body : NO_BODIES) {
            Due.is("met " + body, x.met(body), NONE);
        }
    }

    private static void metOfAll() {
        Due.by(17, "BODIES of pairs with it that have been");
        CellarTurns x = Told.eightThere("");
        playPairs(x, 0, 28);
        for (int body = 0; body < 8; body++) {
            Due.is("all but itself " + body, x.met(body), 255 - (1 << body));
        }
        x.undo();
        Due.is("undone", x.met(7), 127 - 64);
        Due.is("undone", x.met(6), 127 - 64);
    }

    // Promise 18

    private static void readyLikeARound() {
        Due.by(18, "READY: whether three can have a ROUND, in that order");
        int[][] threes = {{0, 1, 2}, {2, 1, 0}, {0, 2, 3}, {0, 0, 1}, {0, 1, 0}, {1, 0, 0}, {0, 1, 4}, {4, 0, 1}, {0, 1, 5},
            {5, 1, 0}, {0, 1, 6}, {0, 3, 6}, {1, 3, 5}, {0, 1, 7}, {7, 1, 0}, {1, -1, 0}, {1, 0, 8}, {MOST, 0, 1},
            {0, LEAST, 1}};
        boolean[] want = {true, true, false, false, false, false, false, false, true, true, false, false, true, false,
            false, false, false, false, false};
        String text = Told.FOUR + "person i ill; person s shy; new n price 1; bar c d;";
        for (int i = 0; i < threes.length; i++) {
            CellarTurns x = cellar(text);
            int[] three = threes[i];
            Due.is("ready " + three[0] + " " + three[1] + " " + three[2], x.ready(three[0], three[1], three[2]), want[i]);
            Due.is("and round says so", x.round(three[0], three[1], three[2]) != NONE, want[i]);
        }
    }

    private static void readyChangesNothing() {
        Due.by(18, "READY: each has sat at most two less than it may; nothing is done");
        CellarTurns x = cellar(Told.SIX + "often 3;");
        x.turn(0, 5);
        String ahead = Told.state(x);
        Due.is("two less", x.ready(0, 1, 2), true);
        Due.same("nothing is done", Told.state(x), ahead);
        x.turn(0, 4);
        Due.is("one less", x.ready(0, 1, 2), false);
        Due.is("one less, at another place", x.ready(1, 2, 0), false);
        Due.is("though they may", x.may(0, 1) && x.may(0, 2) && x.may(1, 2), true);
    }

    // Promise 19

    private static void noBest() {
        Due.by(19, "NONE: none can be");
        Due.is("one body", cellar("person a plain;").best(), NONE);
        Due.is("a bar", cellar(Told.TWO + "bar a b; ring a b;").best(), NONE);
        CellarTurns x = cellar(Told.TWO + "new n price 1;");
        x.turn(0, 1);
        Due.is("all have been", x.best(), NONE);
        x.fetch(2);
        Due.is("then one can", x.best(), 2);
    }

    private static void firstBest() {
        Due.by(19, "of equal ones the first; as 8 * the lesser BODY + the other one");
        Due.is("the very first", cellar(Told.SIX).best(), 1);
        Due.is("a c ahead of b d", cellar(Told.FOUR + "ring a c; ring b d;").best(), 2);
        Due.is("the last", cellar(Told.SIX + "ring e f;").best(), 8 * 4 + 5);
        CellarTurns eight = Told.eightThere("");
        playPairs(eight, 0, 27);
        Due.is("the last of eight", eight.best(), 8 * 6 + 7);
        // In a is c's, in b is a's, in c is b's: each pair brings one home.
        Due.is("of three alike", cellar(Told.THREE + "ring a b c;").best(), 1);
        Due.is("the first having been", cellar(Told.THREE + "ring a b c; been a b;").best(), 2);
    }

    private static void bestMustBeATurn() {
        Due.by(19, "the TURN now behind which the fewest are WRONG");
        CellarTurns x = cellar(Told.TWO);
        Due.is("even if more are wrong then", x.best(), 1);
        CellarTurns cats = cellar("person a plain; person b plain; person k cat; person l cat;");
        Due.is("two cats leave none wrong", cats.best(), 8 * 2 + 3);
        String ahead = Told.state(x);
        x.best();
        Due.same("nothing was done", Told.state(x), ahead);
    }

    // Promise 20

    private static void turnsOfMost() {
        Due.by(20, "just so many (0 to 3); NONE: others");
        CellarTurns x = Told.eightThere("");
        int[] want = {0, 2, 4, 6};
        for (int turns = 0; turns <= 3; turns++) {
            Due.is("most " + turns, x.most(turns), want[turns]);
        }
        for (int turns : new int[] {-1, -2, 4, 5, MOST, LEAST}) {
            Due.is("most " + turns, x.most(turns), NONE);
        }
        String ahead = Told.state(x);
        x.most(3);
        Due.same("nothing was done", Told.state(x), ahead);
    }

    private static void mostBehindJustSoMany() {
        Due.by(20, "the most that can be WRONG behind just so many TURNS");
        CellarTurns x = cellar(Told.TWO + "ring a b;");
        Due.is("now", x.most(0), 2);
        Due.is("the one turn there is", x.most(1), 0);
        CellarTurns cats = cellar("person a plain; person k cat; person l cat;");
        Due.is("cats do not count", cats.most(1), 1);
        Due.is("cats do not count", cats.most(3), 1);
        CellarTurns eight = Told.eightThere("ring a b c d e f;");
        Due.is("eight", eight.most(1), 8);
        CellarTurns six = cellar(Told.SIX + "ring a b c d e f;");
        // Two who have neither each other's minds stay wrong both.
        Due.is("all six stay wrong", six.most(3), 6);
    }

    private static void mostThatCantBe() {
        Due.by(20, "NONE: so many can't be");
        CellarTurns x = cellar(Told.TWO);
        Due.is("one", x.most(1), 2);
        Due.is("two", x.most(2), NONE);
        CellarTurns y = cellar(Told.THREE + "bar a b;");
        Due.is("two", y.most(2), 3);
        Due.is("three", y.most(3), NONE);
        CellarTurns z = cellar(Told.FOUR + "often 1; ring a b;");
        Due.is("two by often", z.most(2), 4);
        Due.is("not three", z.most(3), NONE);
        Due.is("nor one among the ill", cellar("person i ill; person j ill; ring i j;").most(1), NONE);
        Due.is("none needs nobody", cellar("person i ill; person j ill; ring i j;").most(0), 2);
    }
}
