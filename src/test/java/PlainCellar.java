import java.util.ArrayList;
import java.util.HashMap;
import java.util.HashSet;
import java.util.List;
import java.util.Map;
import java.util.NoSuchElementException;
import java.util.Set;
import java.util.function.Consumer;
import java.util.regex.Matcher;
import java.util.regex.Pattern;

/** The document once more, in its plainest form: every row of turns is tried, nothing is left out early. */
final class PlainCellar {
    private static final Set<String> NO_NAMES = Set.of("person", "new", "price", "ring", "been", "bar", "often",
            "costs", "turn", "round", "fetch", "plain", "ill", "shy", "cat", "not", "and", "or");
    private static final List<String> KINDS = List.of("plain", "ill", "shy", "cat");

    interface Cost {
        int of(int wrong, int turns, int met);
    }

    record Token(String text, int place) {
        boolean word() {
            return text.matches("[a-z]{1,8}");
        }

        boolean number() {
            return text.matches("[0-9]{1,4}");
        }

        boolean name() {
            return word() && !NO_NAMES.contains(text);
        }
    }

    record Turn(int one, int other) {
        int code() {
            return 8 * one + other;
        }
    }

    static final class Fault extends RuntimeException {
        private static final long serialVersionUID = 1L;
        final int answer;

        Fault(int kind, Token token) {
            answer = kind + 16 * token.place;
        }
    }

    static final class Told {
        final List<String> names = new ArrayList<>();
        final List<Integer> kinds = new ArrayList<>();
        final List<Boolean> fresh = new ArrayList<>();
        final List<Integer> prices = new ArrayList<>();
        final Map<Integer, Integer> mindIn = new HashMap<>();
        final Set<Set<Integer>> been = new HashSet<>();
        final Set<Set<Integer>> bars = new HashSet<>();
        int often = 9;
        Cost law = (wrong, turns, met) -> wrong;

        int size() {
            return names.size();
        }
    }

    static final class State {
        int turns;
        int cost;
        List<Integer> minds = new ArrayList<>();
        Set<Set<Integer>> been = new HashSet<>();
        List<Integer> sat = new ArrayList<>();
        List<Boolean> there = new ArrayList<>();

        State copy() {
            State s = new State();
            s.turns = turns;
            s.cost = cost;
            s.minds = new ArrayList<>(minds);
            s.been = new HashSet<>(been);
            s.sat = new ArrayList<>(sat);
            s.there = new ArrayList<>(there);
            return s;
        }
    }

    private String tape = "";
    private Told told = new Told();
    private List<int[]> evening = new ArrayList<>();
    private State now = new State();
    private List<State> past = new ArrayList<>();
    private List<int[]> seen = new ArrayList<>();
    private final State[] marks = new State[4];
    private final List<List<int[]>> markSeen = new ArrayList<>(List.of(List.of(), List.of(), List.of(), List.of()));

    // ---- reading

    private List<Token> tokens = new ArrayList<>();
    private int at;

    int feed(long a, long b, long c) {
        for (long bytes : new long[] {a, b, c}) {
            for (int i = 7; i >= 0; i--) {
                int sign = (int) (bytes >> 8 * i & 255);
                if ((sign == 10 || sign >= 32 && sign <= 126) && tape.length() < 1000) {
                    tape += (char) sign;
                }
            }
        }
        return tape.length();
    }

    private void split() {
        tokens = new ArrayList<>();
        at = 0;
        Matcher m = Pattern.compile("[a-z]+|[0-9]+|[^ \\n]").matcher(tape);
        while (m.find()) {
            tokens.add(new Token(m.group(), m.start()));
        }
        tokens.add(new Token("", tape.length()));
        tape = "";
    }

    private Token here() {
        return tokens.get(at);
    }

    private boolean is(String text) {
        return here().text.equals(text);
    }

    private void pass(String text) {
        if (!is(text)) {
            throw new Fault(1, here());
        }
        at++;
    }

    int cellar() {
        split();
        Told t = new Told();
        try {
            Set<String> once = new HashSet<>();
            Set<Integer> ringed = new HashSet<>();
            while (!is("")) {
                cellarLine(t, once, ringed);
            }
        } catch (Fault f) {
            return f.answer;
        }
        told = t;
        now = begin();
        past = new ArrayList<>();
        seen = new ArrayList<>();
        evening = new ArrayList<>();
        for (int i = 0; i < 4; i++) {
            marks[i] = null;
        }
        return 0;
    }

    private void cellarLine(Told t, Set<String> once, Set<Integer> ringed) {
        Token first = here();
        at++;
        switch (first.text) {
            case "person" -> {
                if (t.fresh.stream().filter(f -> !f).count() == 6) {
                    throw new Fault(5, first);
                }
                String name = untold(t);
                if (!KINDS.contains(here().text)) {
                    throw new Fault(1, here());
                }
                add(t, name, KINDS.indexOf(here().text), false, 0);
                at++;
            }
            case "new" -> {
                if (t.fresh.stream().filter(f -> f).count() == 2) {
                    throw new Fault(5, first);
                }
                String name = untold(t);
                pass("price");
                add(t, name, 0, true, number(0, 999));
            }
            case "ring" -> {
                List<Integer> ring = new ArrayList<>();
                while (ring.size() < 2 || !is(";")) {
                    int who = known(t, false);
                    if (!ringed.add(who)) {
                        throw new Fault(3, tokens.get(at - 1));
                    }
                    ring.add(who);
                }
                for (int i = 0; i < ring.size(); i++) {
                    t.mindIn.put(ring.get((i + 1) % ring.size()), ring.get(i));
                }
            }
            case "been", "bar" -> {
                int one = known(t, false);
                int other = known(t, false);
                Set<Set<Integer>> pairs = first.text.equals("bar") ? t.bars : t.been;
                if (one == other || !pairs.add(Set.of(one, other))) {
                    throw new Fault(3, tokens.get(at - 1));
                }
            }
            case "often" -> {
                if (!once.add("often")) {
                    throw new Fault(3, first);
                }
                t.often = number(1, 9);
            }
            case "costs" -> {
                if (!once.add("costs")) {
                    throw new Fault(3, first);
                }
                Cost e = e(0);
                t.law = (w, n, m) -> {
                    int v = e.of(w, n, m);
                    return v < 0 ? 0 : v > 999 ? 999 : v;
                };
            }
            default -> throw new Fault(1, first);
        }
        pass(";");
    }

    private static void add(Told t, String name, int kind, boolean fresh, int price) {
        t.names.add(name);
        t.kinds.add(kind);
        t.fresh.add(fresh);
        t.prices.add(price);
    }

    private String untold(Told t) {
        if (!here().name()) {
            throw new Fault(1, here());
        }
        if (t.names.contains(here().text)) {
            throw new Fault(3, here());
        }
        return tokens.get(at++).text;
    }

    private int number(int low, int high) {
        if (!here().number()) {
            throw new Fault(1, here());
        }
        int n = Integer.parseInt(here().text);
        if (n < low || n > high) {
            throw new Fault(4, here());
        }
        at++;
        return n;
    }

    private int known(Told t, boolean newOnesToo) {
        if (!here().name()) {
            throw new Fault(1, here());
        }
        int who = t.names.indexOf(here().text);
        if (who < 0 || !newOnesToo && t.fresh.get(who)) {
            throw new Fault(2, here());
        }
        at++;
        return who;
    }

    private static int truth(boolean b) {
        return b ? 1 : 0;
    }

    private Cost e(int depth) {
        Cost left = test(depth);
        while (is("and") || is("or")) {
            boolean and = is("and");
            at++;
            Cost a = left;
            Cost b = test(depth);
            left = and ? (w, t, m) -> truth(a.of(w, t, m) != 0 && b.of(w, t, m) != 0)
                    : (w, t, m) -> truth(a.of(w, t, m) != 0 || b.of(w, t, m) != 0);
        }
        return left;
    }

    private Cost test(int depth) {
        Cost a = sum(depth);
        if (is("<")) {
            at++;
            Cost b = sum(depth);
            return (w, t, m) -> truth(a.of(w, t, m) < b.of(w, t, m));
        }
        if (is("=")) {
            at++;
            Cost b = sum(depth);
            return (w, t, m) -> truth(a.of(w, t, m) == b.of(w, t, m));
        }
        return a;
    }

    private Cost sum(int depth) {
        Cost left = product(depth);
        while (is("+") || is("-")) {
            boolean plus = is("+");
            at++;
            Cost a = left;
            Cost b = product(depth);
            left = plus ? (w, t, m) -> a.of(w, t, m) + b.of(w, t, m) : (w, t, m) -> a.of(w, t, m) - b.of(w, t, m);
        }
        return left;
    }

    private Cost product(int depth) {
        Cost left = part(depth);
        while (is("*")) {
            at++;
            Cost a = left;
            Cost b = part(depth);
            left = (w, t, m) -> a.of(w, t, m) * b.of(w, t, m);
        }
        return left;
    }

    private Cost part(int depth) {
        Token first = here();
        boolean begins = first.number() || Set.of("wrong", "turns", "met", "not", "(").contains(first.text);
        if (!begins) {
            throw new Fault(1, first);
        }
        if (depth == 5) {
            throw new Fault(5, first);
        }
        at++;
        switch (first.text) {
            case "wrong":
                return (w, t, m) -> w;
            case "turns":
                return (w, t, m) -> t;
            case "met":
                return (w, t, m) -> m;
            case "not": {
                Cost a = part(depth + 1);
                return (w, t, m) -> truth(a.of(w, t, m) == 0);
            }
            case "(": {
                Cost a = e(depth + 1);
                pass(")");
                return a;
            }
            default: {
                int n = Integer.parseInt(first.text);
                return (w, t, m) -> n;
            }
        }
    }

    int evening() {
        split();
        List<int[]> lines = new ArrayList<>();
        try {
            while (!is("")) {
                int many = is("fetch") ? 1 : is("turn") ? 2 : is("round") ? 3 : 0;
                if (many == 0) {
                    throw new Fault(1, here());
                }
                if (lines.size() == 30) {
                    throw new Fault(5, here());
                }
                at++;
                int[] line = new int[many];
                for (int i = 0; i < many; i++) {
                    line[i] = known(told, true);
                    if (many == 1 && !told.fresh.get(line[i])) {
                        throw new Fault(2, tokens.get(at - 1));
                    }
                    for (int j = 0; j < i; j++) {
                        if (line[i] == line[j]) {
                            throw new Fault(3, tokens.get(at - 1));
                        }
                    }
                }
                pass(";");
                lines.add(line);
            }
        } catch (Fault f) {
            return f.answer;
        }
        evening = lines;
        return 0;
    }

    // ---- by hand

    private State begin() {
        State s = new State();
        for (int i = 0; i < told.size(); i++) {
            s.minds.add(told.mindIn.getOrDefault(i, i));
            s.sat.add(0);
            s.there.add(!told.fresh.get(i));
        }
        s.been.addAll(told.been);
        return s;
    }

    private boolean has(int body) {
        return body >= 0 && body < told.size();
    }

    private boolean wrong(State s, int body) {
        return told.kinds.get(body) != 3 && s.minds.get(body) != body;
    }

    private int wrong(State s) {
        int n = 0;
        for (int i = 0; i < told.size(); i++) {
            n += truth(wrong(s, i));
        }
        return n;
    }

    private int limit(int body) {
        return told.kinds.get(body) == 2 ? Math.min(2, told.often) : told.often;
    }

    private boolean may(State s, int one, int other) {
        if (!has(one) || !has(other) || one == other || !s.there.get(one) || !s.there.get(other)) {
            return false;
        }
        Set<Integer> pair = Set.of(one, other);
        for (int b : pair) {
            if (told.kinds.get(b) == 1 || s.sat.get(b) >= limit(b)) {
                return false;
            }
        }
        return !told.bars.contains(pair) && !s.been.contains(pair);
    }

    private boolean ready(State s, int a, int b, int c) {
        return may(s, a, b) && may(s, b, c) && may(s, a, c) && s.sat.get(a) <= limit(a) - 2
                && s.sat.get(b) <= limit(b) - 2 && s.sat.get(c) <= limit(c) - 2;
    }

    private State turned(State before, int one, int other) {
        State s = before.copy();
        s.minds.set(one, before.minds.get(other));
        s.minds.set(other, before.minds.get(one));
        s.sat.set(one, before.sat.get(one) + 1);
        s.sat.set(other, before.sat.get(other) + 1);
        s.been.add(Set.of(one, other));
        s.turns++;
        s.cost += told.law.of(wrong(s), before.turns, before.been.size());
        return s;
    }

    private State rounded(State before, int a, int b, int c) {
        State s = before.copy();
        s.minds.set(b, before.minds.get(a));
        s.minds.set(c, before.minds.get(b));
        s.minds.set(a, before.minds.get(c));
        for (int x : new int[] {a, b, c}) {
            s.sat.set(x, before.sat.get(x) + 2);
        }
        s.been.add(Set.of(a, b));
        s.been.add(Set.of(b, c));
        s.been.add(Set.of(a, c));
        s.turns++;
        s.cost += told.law.of(wrong(s), before.turns, before.been.size());
        return s;
    }

    private boolean fetchable(State s, int body) {
        return has(body) && told.fresh.get(body) && !s.there.get(body);
    }

    private State fetched(State before, int body) {
        State s = before.copy();
        s.there.set(body, true);
        s.cost += told.prices.get(body);
        return s;
    }

    private void go(State next) {
        past.add(now);
        if (past.size() > 16) {
            past.remove(0);
        }
        now = next;
    }

    int body(int body, int what) {
        if (!has(body)) {
            return -1;
        }
        return switch (what) {
            case 0 -> told.kinds.get(body);
            case 1 -> truth(told.fresh.get(body));
            case 2 -> told.prices.get(body);
            case 3 -> truth(now.there.get(body));
            case 4 -> now.minds.get(body);
            case 5 -> now.sat.get(body);
            case 6 -> truth(wrong(now, body));
            default -> -1;
        };
    }

    int mind(int mind) {
        return now.minds.indexOf(mind);
    }

    boolean may(int one, int other) {
        return may(now, one, other);
    }

    int turn(int one, int other) {
        if (!may(now, one, other)) {
            return -1;
        }
        go(turned(now, one, other));
        return wrong(now);
    }

    int round(int one, int other, int third) {
        if (!ready(now, one, other, third)) {
            return -1;
        }
        go(rounded(now, one, other, third));
        return wrong(now);
    }

    boolean fetch(int body) {
        if (!fetchable(now, body)) {
            return false;
        }
        go(fetched(now, body));
        return true;
    }

    boolean undo() {
        if (past.isEmpty()) {
            return false;
        }
        now = past.remove(past.size() - 1);
        return true;
    }

    int judged(int what) {
        State s = begin();
        int first = -1;
        for (int i = 0; i < evening.size(); i++) {
            int[] l = evening.get(i);
            if (l.length == 1 && fetchable(s, l[0])) {
                s = fetched(s, l[0]);
            } else if (l.length == 2 && may(s, l[0], l[1])) {
                s = turned(s, l[0], l[1]);
            } else if (l.length == 3 && ready(s, l[0], l[1], l[2])) {
                s = rounded(s, l[0], l[1], l[2]);
            } else if (first < 0) {
                first = i;
            }
        }
        return what == 0 ? first : what == 1 ? wrong(s) : what == 2 ? s.cost : -2;
    }

    // ---- rings

    private List<List<Integer>> ringList() {
        List<List<Integer>> rings = new ArrayList<>();
        Set<Integer> walked = new HashSet<>();
        for (int i = 0; i < told.size(); i++) {
            List<Integer> ring = new ArrayList<>();
            for (int b = i; walked.add(b); b = now.minds.get(b)) {
                ring.add(b);
            }
            if (ring.size() > 1) {
                rings.add(ring);
            }
        }
        return rings;
    }

    int rings(int what) {
        List<List<Integer>> rings = ringList();
        int longest = 0;
        int turns = 0;
        for (List<Integer> ring : rings) {
            longest = Math.max(longest, ring.size());
            turns += ring.size() - 1;
        }
        return what == 0 ? rings.size() : what == 1 ? longest : what == 2 ? turns % 2 : -1;
    }

    int left() {
        return open(now).size();
    }

    private List<int[]> enoughTurns() {
        List<int[]> turns = new ArrayList<>();
        List<List<Integer>> rings = ringList();
        for (List<Integer> ring : rings) {
            int last = ring.get(ring.size() - 1);
            for (int b : ring) {
                if (b != last) {
                    turns.add(new int[] {8, b});
                }
            }
            turns.add(new int[] {9, last});
            turns.add(new int[] {8, last});
            turns.add(new int[] {9, ring.get(0)});
        }
        if (rings.size() % 2 == 1) {
            turns.add(new int[] {8, 9});
        }
        return turns;
    }

    int enough(int what) {
        List<int[]> turns = enoughTurns();
        if (what == -1) {
            return turns.size();
        }
        return what >= 0 && what < turns.size() ? 10 * turns.get(what)[0] + turns.get(what)[1] : -2;
    }

    /** By playing them with the two: also shows that all are home then, and no pair twice. */
    int home(int body) {
        if (!has(body)) {
            return -1;
        }
        int[] minds = new int[10];
        for (int i = 0; i < 10; i++) {
            minds[i] = i < told.size() ? now.minds.get(i) : i;
        }
        List<int[]> turns = enoughTurns();
        Set<Set<Integer>> pairs = new HashSet<>();
        int lastAway = minds[body] == body ? -1 : 0;
        for (int i = 0; i < turns.size(); i++) {
            int a = turns.get(i)[0];
            int b = turns.get(i)[1];
            int m = minds[a];
            minds[a] = minds[b];
            minds[b] = m;
            if (!pairs.add(Set.of(a, b))) {
                throw new IllegalStateException("a pair twice");
            }
            if (minds[body] != body) {
                lastAway = i + 1;
            }
        }
        for (int i = 0; i < 10; i++) {
            if (minds[i] != i) {
                throw new IllegalStateException("not home");
            }
        }
        return lastAway + 1;
    }

    int met(int body) {
        if (!has(body)) {
            return -1;
        }
        int bits = 0;
        for (int i = 0; i < told.size(); i++) {
            if (i != body && now.been.contains(Set.of(i, body))) {
                bits += 1 << i;
            }
        }
        return bits;
    }

    boolean ready(int one, int other, int third) {
        return ready(now, one, other, third);
    }

    // ---- all rows

    private List<Turn> open(State s) {
        List<Turn> turns = new ArrayList<>();
        for (int i = 0; i < told.size(); i++) {
            for (int j = i + 1; j < told.size(); j++) {
                if (may(s, i, j)) {
                    turns.add(new Turn(i, j));
                }
            }
        }
        return turns;
    }

    /** A row and what is then; the rows come in their order. */
    record Row(List<Turn> turns, State end) {
    }

    private void all(State s, int turns, List<Turn> row, Consumer<Row> what) {
        if (turns == 0) {
            what.accept(new Row(List.copyOf(row), s));
            return;
        }
        for (Turn t : open(s)) {
            row.add(t);
            all(turned(s, t.one, t.other), turns - 1, row, what);
            row.remove(row.size() - 1);
        }
    }

    private List<Row> rowsOf(State s, int turns) {
        List<Row> rows = new ArrayList<>();
        all(s, turns, new ArrayList<>(), rows::add);
        return rows;
    }

    int best() {
        int best = -1;
        int least = 99;
        for (Row r : rowsOf(now, 1)) {
            if (wrong(r.end) < least) {
                least = wrong(r.end);
                best = r.turns.get(0).code();
            }
        }
        return best;
    }

    int most(int turns) {
        if (turns < 0 || turns > 3) {
            return -1;
        }
        return rowsOf(now, turns).stream().mapToInt(r -> wrong(r.end)).max().orElse(-1);
    }

    private Row firstHome(State s, int turns) {
        Row[] found = new Row[1];
        for (int d = 0; d <= turns; d++) {
            all(s, d, new ArrayList<>(), r -> {
                if (found[0] == null && wrong(r.end) == 0) {
                    found[0] = r;
                }
            });
            if (found[0] != null) {
                return found[0];
            }
        }
        return null;
    }

    int fewest(int turns, int what) {
        if (turns < 0 || turns > 5) {
            return -1;
        }
        Row r = firstHome(now, turns);
        if (r == null) {
            return -1;
        }
        return what == 0 ? r.turns.size() : turnOf(r, (long) what - 1);
    }

    private static int turnOf(Row r, long i) {
        return i >= 0 && i < r.turns.size() ? r.turns.get((int) i).code() : -1;
    }

    int which(int turns) {
        int found = -1;
        if (turns < 0 || turns > 5) {
            return -1;
        }
        for (int i = told.size() - 1; i >= 0; i--) {
            if (fetchable(now, i) && firstHome(fetched(now, i), turns) != null
                    && (found < 0 || told.prices.get(i) <= told.prices.get(found))) {
                found = i;
            }
        }
        return found;
    }

    int least(int turns, int what) {
        if (turns < 0 || turns > 4) {
            return -1;
        }
        Row[] best = new Row[1];
        for (int d = 0; d <= turns; d++) {
            all(now, d, new ArrayList<>(), r -> {
                if (best[0] == null || wrong(r.end) < wrong(best[0].end)) {
                    best[0] = r;
                }
            });
        }
        return what == 0 ? wrong(best[0].end) : what == 1 ? best[0].turns.size() : turnOf(best[0], (long) what - 2);
    }

    int cheap(int turns, int what) {
        if (turns < 0 || turns > 5) {
            return -1;
        }
        Row[] best = new Row[1];
        for (int d = 0; d <= turns; d++) {
            all(now, d, new ArrayList<>(), r -> {
                if (wrong(r.end) == 0 && (best[0] == null || r.end.cost < best[0].end.cost)) {
                    best[0] = r;
                }
            });
        }
        if (best[0] == null) {
            return -1;
        }
        return what == 0 ? best[0].end.cost - now.cost : what == 1 ? best[0].turns.size()
                : turnOf(best[0], (long) what - 2);
    }

    int muddles(int turns) {
        if (turns < 0 || turns > 2) {
            return -1;
        }
        Set<List<Integer>> ways = new HashSet<>();
        all(now, turns, new ArrayList<>(), r -> ways.add(r.end.minds));
        return ways.size();
    }

    int chance(int turns) {
        return turns < 0 || turns > 3 ? -1 : chance(now, turns, 1000000);
    }

    private int chance(State s, int turns, int share) {
        List<Turn> open = open(s);
        if (turns == 0 || open.isEmpty()) {
            return wrong(s) == 0 ? share : 0;
        }
        int sum = 0;
        for (Turn t : open) {
            sum += chance(turned(s, t.one, t.other), turns - 1, share / open.size());
        }
        return sum;
    }

    boolean see(int body, int mind) {
        if (!has(body) || !has(mind) || seen.size() == 8) {
            return false;
        }
        seen.add(new int[] {body, mind});
        return true;
    }

    private List<Row> fitting(int turns) {
        List<Row> rows = rowsOf(now, turns);
        rows.removeIf(r -> seen.stream().anyMatch(s -> r.end.minds.get(s[0]) != s[1]));
        return rows;
    }

    int rows(int turns) {
        return turns < 1 || turns > 3 ? -1 : fitting(turns).size();
    }

    int pair(int turns, int one, int other) {
        if (turns < 1 || turns > 3 || !has(one) || !has(other) || one == other) {
            throw new NoSuchElementException();
        }
        List<Row> rows = fitting(turns);
        if (rows.isEmpty()) {
            throw new NoSuchElementException();
        }
        Turn t = new Turn(Math.min(one, other), Math.max(one, other));
        long with = rows.stream().filter(r -> r.turns.contains(t)).count();
        return with == rows.size() ? 2 : with > 0 ? 1 : 0;
    }

    int look(int turns) {
        if (turns < 1 || turns > 3) {
            return -1;
        }
        List<Row> rows = fitting(turns);
        int found = -1;
        long least = rows.size();
        for (int b = 0; b < told.size(); b++) {
            if (!now.there.get(b)) {
                continue;
            }
            long greatest = 0;
            for (int m = 0; m < told.size(); m++) {
                int body = b;
                int mind = m;
                greatest = Math.max(greatest, rows.stream().filter(r -> r.end.minds.get(body) == mind).count());
            }
            if (greatest < least) {
                least = greatest;
                found = b;
            }
        }
        return found;
    }

    int evenings(int seed, int many, int what) {
        if (seed < 0 || seed > 9999 || many < 1 || many > 50) {
            return -1;
        }
        long g = seed;
        int wrong = 0;
        int none = 0;
        int costs = 0;
        for (int i = 0; i < many; i++) {
            State s = now;
            for (int k = 0; k < 6; k++) {
                List<Turn> open = open(s);
                if (open.isEmpty()) {
                    continue;
                }
                g = (g * 1103515245L + 12345L) % 2147483648L;
                Turn t = open.get((int) (g / 65536 % open.size()));
                s = turned(s, t.one, t.other);
            }
            wrong += wrong(s);
            none += truth(wrong(s) == 0);
            costs += s.cost - now.cost;
        }
        return what == 0 ? wrong : what == 1 ? none : what == 2 ? costs : -1;
    }

    boolean mark(int mark, boolean back) {
        if (mark < 0 || mark > 3 || back && marks[mark] == null) {
            return false;
        }
        if (back) {
            now = marks[mark];
            seen = new ArrayList<>(markSeen.get(mark));
            past = new ArrayList<>();
        } else {
            marks[mark] = now;
            markSeen.set(mark, List.copyOf(seen));
        }
        return true;
    }

    int count(int what) {
        return switch (what) {
            case 0 -> told.size();
            case 1 -> (int) told.fresh.stream().filter(f -> f).count();
            case 2 -> (int) now.there.stream().filter(f -> f).count();
            case 3 -> now.turns;
            case 4 -> now.been.size();
            case 5 -> wrong(now);
            case 6 -> now.cost;
            case 7 -> told.often;
            case 8 -> told.bars.size();
            case 9 -> evening.size();
            case 10 -> seen.size();
            case 11 -> past.size();
            case 12 -> tape.length();
            default -> -1;
        };
    }
}
