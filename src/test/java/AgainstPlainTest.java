import java.util.NoSuchElementException;
import java.util.Random;

/** Runs of drawn calls on the class and on the document's plainest form: both must answer alike. */
public final class AgainstPlainTest {
    private static final String[] CALLS = {"body", "mind", "may", "turn", "round", "fetch", "undo", "judged", "rings",
        "left", "enough", "home", "met", "ready", "best", "most", "fewest", "which", "least", "cheap", "muddles",
        "chance", "see", "rows", "pair", "look", "evenings", "mark", "count", "turn", "turn", "cellar", "evening"};
    private static final int THROWN = -99;

    private static int wrong = 0;
    private static long calls = 0;
    private static long mostRows = 4000;

    private CellarTurns x;
    private PlainCellar y;
    private Random r;
    private String text = "";
    private final StringBuilder told = new StringBuilder();

    public static void main(String[] args) {
        int runs = args.length > 1 ? Integer.parseInt(args[1]) : 2500;
        long seed = args.length > 2 ? Long.parseLong(args[2]) : 1;
        mostRows = args.length > 3 ? Long.parseLong(args[3]) : mostRows;
        for (int run = 0; run < runs && wrong < 5; run++) {
            new AgainstPlainTest().run(seed * 1000003 + run);
        }
        System.out.println(calls + " calls, " + wrong + " runs not as due");
        if (wrong != 0) {
            System.exit(1);
        }
    }

    private void run(long seed) {
        r = new Random(seed);
        x = new CellarTurns();
        y = new PlainCellar();
        if (r.nextInt(20) > 0 && !readCellar(false)) {
            return;
        }
        for (int i = 0; i < 120; i++) {
            if (!step()) {
                return;
            }
        }
    }

    private boolean same(String call, long got, long due) {
        calls++;
        told.append(call).append(" = ").append(got).append('\n');
        if (got == due) {
            return true;
        }
        wrong++;
        System.out.println(told);
        System.out.println(call + " answered " + got + ", due is " + due);
        return false;
    }

    private boolean feedBoth(String signs) {
        long[] longs = Told.packed(signs);
        for (int i = 0; i < longs.length; i += 3) {
            long a = longs[i];
            long b = i + 1 < longs.length ? longs[i + 1] : 0;
            long c = i + 2 < longs.length ? longs[i + 2] : 0;
            if (!same("feed", x.feed(a, b, c), y.feed(a, b, c))) {
                return false;
            }
        }
        told.append("fed: ").append(signs).append('\n');
        return true;
    }

    private boolean readCellar(boolean spoil) {
        String next = Told.randomCellar(r);
        String fed = spoil ? Told.spoilt(r, next) : next;
        if (!feedBoth(fed)) {
            return false;
        }
        int fault = y.cellar();
        if (fault == 0) {
            text = fed;
        }
        return same("cellar()", x.cellar(), fault);
    }

    private boolean readEvening() {
        String next = Told.randomEvening(r, text);
        return feedBoth(r.nextInt(3) == 0 ? Told.spoilt(r, next) : next) && same("evening()", x.evening(), y.evening());
    }

    private int someBody() {
        int n = y.count(0);
        if (r.nextInt(25) == 0) {
            return new int[] {-1, n, 8, Integer.MAX_VALUE, Integer.MIN_VALUE}[r.nextInt(5)];
        }
        return n == 0 ? 0 : r.nextInt(n);
    }

    private int some(int low, int high) {
        if (r.nextInt(25) == 0) {
            return new int[] {low - 1, high + 1, Integer.MAX_VALUE, Integer.MIN_VALUE}[r.nextInt(4)];
        }
        return low + r.nextInt(high - low + 1);
    }

    /** So many turns that trying all rows plainly ends soon. */
    private int turns(int low, int high, int more) {
        int turns = some(low, high);
        if (turns < low || turns > high) {
            return turns;
        }
        long open = Math.max(1, y.left() + more);
        while (turns > low && Math.pow(open, turns) > mostRows) {
            turns--;
        }
        return turns;
    }

    private static int number(boolean b) {
        return b ? 1 : 0;
    }

    private boolean step() {
        String call = CALLS[r.nextInt(CALLS.length)];
        int a = someBody();
        int b = someBody();
        int c = someBody();
        switch (call) {
            case "cellar": return r.nextInt(6) > 0 || readCellar(r.nextInt(4) > 0);
            case "evening": return readEvening();
            case "body": { int w = some(0, 6); return same("body " + a + " " + w, x.body(a, w), y.body(a, w)); }
            case "mind": return same("mind " + a, x.mind(a), y.mind(a));
            case "may": return same("may " + a + " " + b, number(x.may(a, b)), number(y.may(a, b)));
            case "turn": return same("turn " + a + " " + b, x.turn(a, b), y.turn(a, b));
            case "round": return same("round " + a + " " + b + " " + c, x.round(a, b, c), y.round(a, b, c));
            case "fetch": return same("fetch " + a, number(x.fetch(a)), number(y.fetch(a)));
            case "undo": return same("undo", number(x.undo()), number(y.undo()));
            case "judged": { int w = some(0, 2); return same("judged " + w, x.judged(w), y.judged(w)); }
            case "rings": { int w = some(0, 2); return same("rings " + w, x.rings(w), y.rings(w)); }
            case "left": return same("left", x.left(), y.left());
            case "enough": { int w = some(-1, 16); return same("enough " + w, x.enough(w), y.enough(w)); }
            case "home": return same("home " + a, x.home(a), y.home(a));
            case "met": return same("met " + a, x.met(a), y.met(a));
            case "ready":
                return same("ready " + a + " " + b + " " + c, number(x.ready(a, b, c)), number(y.ready(a, b, c)));
            default: return stepOfRows(call, a, b);
        }
    }

    private boolean stepOfRows(String call, int a, int b) {
        switch (call) {
            case "best": return same("best", x.best(), y.best());
            case "most": { int t = turns(0, 3, 0); return same("most " + t, x.most(t), y.most(t)); }
            case "fewest": {
                int t = turns(0, 5, 0);
                int w = some(0, 5);
                return same("fewest " + t + " " + w, x.fewest(t, w), y.fewest(t, w));
            }
            case "which": { int t = turns(0, 5, 4); return same("which " + t, x.which(t), y.which(t)); }
            case "least": {
                int t = turns(0, 4, 0);
                int w = some(0, 5);
                return same("least " + t + " " + w, x.least(t, w), y.least(t, w));
            }
            case "cheap": {
                int t = turns(0, 5, 0);
                int w = some(0, 6);
                return same("cheap " + t + " " + w, x.cheap(t, w), y.cheap(t, w));
            }
            case "muddles": { int t = some(0, 2); return same("muddles " + t, x.muddles(t), y.muddles(t)); }
            case "chance": { int t = turns(0, 3, 0); return same("chance " + t, x.chance(t), y.chance(t)); }
            case "see": return same("see " + a + " " + b, number(x.see(a, b)), number(y.see(a, b)));
            case "rows": { int t = turns(1, 3, 0); return same("rows " + t, x.rows(t), y.rows(t)); }
            case "pair": {
                int t = turns(1, 3, 0);
                return same("pair " + t + " " + a + " " + b, pairOfClass(t, a, b), pairOfPlain(t, a, b));
            }
            case "look": { int t = turns(1, 3, 0); return same("look " + t, x.look(t), y.look(t)); }
            case "evenings": {
                int s = some(0, 9999);
                int m = some(1, 50);
                int w = some(0, 2);
                return same("evenings " + s + " " + m + " " + w, x.evenings(s, m, w), y.evenings(s, m, w));
            }
            case "mark": {
                int m = some(0, 3);
                boolean back = r.nextBoolean();
                return same("mark " + m + " " + back, number(x.mark(m, back)), number(y.mark(m, back)));
            }
            default: { int w = some(0, 12); return same("count " + w, x.count(w), y.count(w)); }
        }
    }

    private int pairOfClass(int turns, int one, int other) {
        try {
            return x.pair(turns, one, other);
        } catch (NoSuchElementException e) {
            return THROWN;
        }
    }

    private int pairOfPlain(int turns, int one, int other) {
        try {
            return y.pair(turns, one, other);
        } catch (NoSuchElementException e) {
            return THROWN;
        }
    }
}
