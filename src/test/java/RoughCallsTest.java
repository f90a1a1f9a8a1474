import java.util.NoSuchElementException;
import java.util.Random;

/** Calls with any arguments in any state: nothing is thrown but what pair throws, and each ends. */
public final class RoughCallsTest {
    private static final int[] EDGES = {Integer.MIN_VALUE, Integer.MIN_VALUE + 1, Integer.MIN_VALUE + 2, -9, -2, -1, 0,
        1, 2, 3, 4, 5, 6, 7, 8, 9, 10, 12, 13, 16, 31, 32, 33, 50, 63, 64, 9999, Integer.MAX_VALUE};

    private RoughCallsTest() {
    }

    public static void main(String[] args) {
        int failed = 0;
        for (int run = 0; run < 600; run++) {
            Random r = new Random(run);
            CellarTurns x = new CellarTurns();
            String text = Told.randomCellar(r);
            for (int i = 0; i < 160; i++) {
                try {
                    step(x, r, text);
                } catch (RuntimeException e) {
                    failed++;
                    System.out.println("run " + run + ", call " + i + ": " + e);
                    e.printStackTrace(System.out);
                }
            }
        }
        System.out.println(failed + " calls threw");
        if (failed != 0) {
            System.exit(1);
        }
    }

    private static int any(Random r) {
        return r.nextInt(3) == 0 ? r.nextInt() : EDGES[r.nextInt(EDGES.length)];
    }

    private static int near(Random r) {
        return r.nextInt(4) == 0 ? any(r) : r.nextInt(8);
    }

    private static void step(CellarTurns x, Random r, String text) {
        int a = near(r);
        int b = near(r);
        int c = near(r);
        switch (r.nextInt(36)) {
            case 0: x.feed(r.nextLong(), r.nextLong(), r.nextLong()); break;
            case 1: Told.feed(x, r.nextInt(3) > 0 ? text : Told.spoilt(r, text)); x.cellar(); break;
            case 2: Told.feed(x, Told.spoilt(r, Told.randomEvening(r, text))); x.evening(); break;
            case 3: x.body(a, b); break;
            case 4: x.mind(a); break;
            case 5: x.may(a, b); break;
            case 6: case 7: case 8: x.turn(a, b); break;
            case 9: x.round(a, b, c); break;
            case 10: case 11: x.fetch(a); break;
            case 12: x.undo(); break;
            case 13: x.judged(a); break;
            case 14: x.rings(a); break;
            case 15: x.left(); break;
            case 16: x.enough(a); break;
            case 17: x.home(a); break;
            case 18: x.met(a); break;
            case 19: x.ready(a, b, c); break;
            case 20: x.best(); break;
            case 21: x.most(a); break;
            case 22: x.fewest(a, b); break;
            case 23: x.which(a); break;
            case 24: x.least(a, b); break;
            case 25: x.cheap(a, b); break;
            case 26: x.muddles(a); break;
            case 27: x.chance(a); break;
            case 28: x.see(a, b); break;
            case 29: x.rows(a); break;
            case 30: rough(x, a, b, c); break;
            case 31: x.look(a); break;
            case 32: x.evenings(a, b, c); break;
            case 33: x.mark(a, r.nextBoolean()); break;
            case 34: x.count(a); break;
            default: Told.feed(x, Told.randomEvening(r, text)); x.evening(); break;
        }
    }

    private static void rough(CellarTurns x, int a, int b, int c) {
        try {
            x.pair(a, b, c);
        } catch (NoSuchElementException e) {
            return;
        }
    }
}
