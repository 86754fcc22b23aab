import java.math.BigInteger;
import java.util.ArrayDeque;
import java.util.ArrayList;
import java.util.Arrays;
import java.util.Deque;
import java.util.HashMap;
import java.util.HashSet;
import java.util.List;
import java.util.Map;
import java.util.Set;
import java.util.TreeSet;
import java.util.function.IntPredicate;
import java.util.regex.Matcher;
import java.util.regex.Pattern;
import java.util.stream.IntStream;

/** The document once more, by the Java library and by brute force, to be held against the class. */
final class Model {
    private static final int BAD = -1, STATE = -2, FULL = -3, NONE = -9, NO = -1000000;

    private record Raft(int next, boolean gone, int wealth) {
        Raft heir(int n) {
            return new Raft(n, gone, wealth);
        }

        Raft dead() {
            return new Raft(next, true, wealth);
        }

        Raft richer(int by) {
            return new Raft(next, gone, Math.min(9999, wealth + by));
        }
    }

    private record Iron(int owner, int weight, int worth) {
    }

    private record Anchor(Iron iron, int cell, int links, int age, String how) {
        Anchor in(int x) {
            return x < 0 || x > 9 ? new Anchor(iron, cell, links, age, "lost") : new Anchor(iron, x, links, age, how);
        }

        Anchor with(int n) {
            return new Anchor(iron, cell, n, age, how);
        }

        Anchor older() {
            return new Anchor(iron, cell, links, Math.min(99, age + 1), how);
        }

        Anchor up() {
            return new Anchor(iron, cell, links, age, "up");
        }

        boolean lies() {
            return how.equals("lies");
        }

        int value() {
            return Math.max(0, iron.worth - age);
        }
    }

    private record State(List<Raft> rafts, List<Anchor> anchors) {
        State raft(int r, Raft other) {
            List<Raft> all = new ArrayList<>(rafts);
            all.set(r, other);
            return new State(all, anchors);
        }

        State anchor(int a, Anchor other) {
            List<Anchor> all = new ArrayList<>(anchors);
            all.set(a, other);
            return new State(rafts, all);
        }
    }

    private record Image(State state, List<State> past) {
    }

    private static final class Fault extends Exception {
        private static final long serialVersionUID = 1;
        final int at;

        Fault(int at) {
            this.at = at;
        }
    }

    private String text = "";
    private int[] deep = filled(3);
    private int[] grip = filled(1);
    private Set<Set<Integer>> ropes = new HashSet<>();
    private State state = new State(List.of(), List.of());
    private Deque<State> past = new ArrayDeque<>();
    private final Map<Integer, Image> images = new HashMap<>();
    private final List<int[]> heard = new ArrayList<>();
    private BigInteger trace = BigInteger.ZERO;

    private static int[] filled(int n) {
        int[] row = new int[10];
        Arrays.fill(row, n);
        return row;
    }

    int type(int c) {
        if (c < 0 || c > 255) {
            return BAD;
        }
        if (text.length() == 200) {
            return FULL;
        }
        text += (char) c;
        return text.length();
    }

    int clear() {
        int had = text.length();
        text = "";
        return had;
    }

    // ---- reading: the whole text is cut into tokens first

    private record Token(String what, int at) {
    }

    private static List<Token> cut(String text) {
        List<Token> tokens = new ArrayList<>();
        Matcher matcher = Pattern.compile(" +|[a-z]+|[0-9]+|;|.", Pattern.DOTALL).matcher(text);
        while (matcher.find()) {
            if (!matcher.group().startsWith(" ")) {
                tokens.add(new Token(matcher.group(), matcher.start()));
            }
        }
        tokens.add(new Token("", text.length()));
        return tokens;
    }

    private static int number(Deque<Token> tokens, IntPredicate may) throws Fault {
        Token token = tokens.remove();
        if (!token.what.matches("0|[1-9][0-9]?") || !may.test(Integer.parseInt(token.what))) {
            throw new Fault(token.at);
        }
        return Integer.parseInt(token.what);
    }

    private static void stop(Deque<Token> tokens) throws Fault {
        Token token = tokens.remove();
        if (!token.what.equals(";")) {
            throw new Fault(token.at);
        }
    }

    int town() {
        Model read = new Model();
        List<Raft> rafts = new ArrayList<>();
        List<Anchor> anchors = new ArrayList<>();
        int items = 0;
        try {
            Deque<Token> tokens = new ArrayDeque<>(cut(text));
            for (; tokens.size() > 1; items++) {
                item(read, tokens, rafts, anchors);
            }
        } catch (Fault fault) {
            return -10 - fault.at;
        }
        text = "";
        deep = read.deep;
        grip = read.grip;
        ropes = read.ropes;
        state = new State(rafts, anchors);
        past.clear();
        images.clear();
        heard.clear();
        return items;
    }

    private static void item(Model read, Deque<Token> tokens, List<Raft> rafts, List<Anchor> anchors) throws Fault {
        Token letter = tokens.remove();
        IntPredicate told = r -> r < rafts.size();
        if (letter.what.equals("c")) {
            int x = number(tokens, n -> n <= 9);
            int d = number(tokens, n -> n >= 1 && n <= 9);
            int g = number(tokens, n -> n <= 3);
            read.deep[x] = d;
            read.grip[x] = g;
        } else if (letter.what.equals("r") && rafts.size() < 6) {
            rafts.add(new Raft(number(tokens, n -> n <= rafts.size()), false, 0));
        } else if (letter.what.equals("a") && anchors.size() < 8) {
            int owner = number(tokens, told);
            int x = number(tokens, n -> n <= 9);
            int weight = number(tokens, n -> n >= 1 && n <= 9);
            int links = number(tokens, n -> n >= 1 && n <= 60);
            int worth = number(tokens, n -> true);
            anchors.add(new Anchor(new Iron(owner, weight, worth), x, links, 0, "lies"));
        } else if (letter.what.equals("t")) {
            int a = number(tokens, told);
            int b = number(tokens, told.and(n -> n != a));
            read.ropes.add(Set.of(a, b));
        } else {
            throw new Fault(letter.at);
        }
        stop(tokens);
    }

    // ---- looking

    private boolean noRaft(int r) {
        return r < 0 || r >= state.rafts.size();
    }

    private boolean noAnchor(int a) {
        return a < 0 || a >= state.anchors.size();
    }

    private static boolean no(int n, int low, int high) {
        return n < low || n > high;
    }

    private static int bits(IntStream those) {
        return those.map(i -> 1 << i).sum();
    }

    private IntStream all() {
        return IntStream.range(0, state.anchors.size());
    }

    private Anchor a(int a) {
        return state.anchors.get(a);
    }

    private int strength(Anchor a) {
        return a.iron.weight + a.iron.weight * grip[a.cell] + a.links / deep[a.cell];
    }

    private int hold(State in, int x) {
        return in.anchors.stream().filter(b -> b.lies() && b.cell == x).mapToInt(this::strength).sum();
    }

    private int whose(Anchor a) {
        Set<Integer> seen = new HashSet<>();
        int r = a.iron.owner;
        while (state.rafts.get(r).gone) {
            if (!seen.add(r)) {
                return NONE;
            }
            r = state.rafts.get(r).next;
        }
        return r;
    }

    private Set<Integer> townOf(int r) {
        Set<Integer> town = new TreeSet<>(Set.of(r));
        boolean more = true;
        while (more) {
            more = false;
            for (Set<Integer> rope : ropes) {
                if (rope.stream().anyMatch(town::contains) && town.addAll(rope)) {
                    more = true;
                }
            }
        }
        return town;
    }

    private int might(int r) {
        Set<Integer> town = townOf(r);
        return state.anchors.stream().filter(b -> b.lies() && town.contains(b.iron.owner)).mapToInt(this::strength).sum();
    }

    int cell(int x, int what) {
        if (no(x, 0, 9) || no(what, 0, 2)) {
            return BAD;
        }
        return what == 0 ? deep[x] : what == 1 ? grip[x] : bits(all().filter(i -> a(i).lies() && a(i).cell == x));
    }

    int raft(int r, int what) {
        if (noRaft(r) || no(what, 0, 5)) {
            return BAD;
        }
        Raft raft = state.rafts.get(r);
        return switch (what) {
            case 0 -> raft.next;
            case 1 -> raft.gone ? 1 : 0;
            case 2 -> raft.wealth;
            case 3 -> state.anchors.stream().filter(b -> b.lies() && whose(b) == r).mapToInt(Anchor::value).sum();
            case 4 -> bits(townOf(r).stream().mapToInt(i -> i));
            default -> might(r);
        };
    }

    int anchor(int n, int what) {
        if (noAnchor(n) || no(what, 0, 8)) {
            return BAD;
        }
        Anchor a = a(n);
        return switch (what) {
            case 0 -> a.iron.owner;
            case 1 -> a.cell;
            case 2 -> a.iron.weight;
            case 3 -> a.links;
            case 4 -> a.iron.worth;
            case 5 -> a.age;
            case 6 -> List.of("lies", "up", "lost").indexOf(a.how);
            case 7 -> a.lies() ? hold(state, a.cell) : NONE;
            default -> whose(a);
        };
    }

    // ---- doing

    private void does(State next) {
        past.addLast(state);
        if (past.size() > 10) {
            past.removeFirst();
        }
        state = next;
    }

    private State behind(State before, int f, int side) {
        State behind = before;
        for (int i = 0; i < before.anchors.size(); i++) {
            Anchor a = before.anchors.get(i);
            if (a.lies() && hold(before, a.cell) < f) {
                behind = behind.anchor(i, a.in(a.cell + 2 * side - 1));
            }
        }
        return behind;
    }

    private static int lost(State in) {
        return (int) in.anchors.stream().filter(a -> a.how.equals("lost")).count();
    }

    int storms(int f, int side) {
        if (no(f, 1, 99) || no(side, 0, 1)) {
            return BAD;
        }
        int before = lost(state);
        does(behind(state, f, side));
        return lost(state) - before;
    }

    int pays(int a, int n) {
        if (noAnchor(a) || no(n, -9, 9) || n == 0) {
            return BAD;
        }
        int links = a(a).links + n;
        if (!a(a).lies() || no(links, 1, 60)) {
            return STATE;
        }
        does(state.anchor(a, a(a).with(links)));
        return links;
    }

    int dies(int r) {
        if (noRaft(r)) {
            return BAD;
        }
        if (state.rafts.get(r).gone) {
            return STATE;
        }
        does(state.raft(r, state.rafts.get(r).dead()));
        return (int) state.rafts.stream().filter(Raft::gone).count();
    }

    int wills(int r, int next) {
        if (noRaft(r) || noRaft(next)) {
            return BAD;
        }
        Raft raft = state.rafts.get(r);
        if (raft.gone || raft.next == next) {
            return STATE;
        }
        does(state.raft(r, raft.heir(next)));
        return raft.next;
    }

    int year() {
        State next = new State(state.rafts, state.anchors.stream().map(a -> a.lies() ? a.older() : a).toList());
        does(next);
        return state.anchors.stream().filter(Anchor::lies).mapToInt(Anchor::age).sum();
    }

    int hauls(int r, int a) {
        if (noRaft(r) || noAnchor(a)) {
            return BAD;
        }
        Anchor one = a(a);
        boolean free = state.anchors.stream().filter(b -> b.lies() && b.cell == one.cell).mapToInt(this::whose)
            .allMatch(w -> w == NONE || w == r);
        if (!one.lies() || whose(one) != r || !free) {
            return STATE;
        }
        does(state.anchor(a, one.up()).raft(r, state.rafts.get(r).richer(one.value())));
        return state.rafts.get(r).wealth;
    }

    int undo() {
        if (past.isEmpty()) {
            return STATE;
        }
        state = past.removeLast();
        return past.size();
    }

    int now(int what) {
        if (no(what, 0, 4)) {
            return BAD;
        }
        return switch (what) {
            case 3 -> bits(IntStream.range(0, state.rafts.size()).filter(r -> state.rafts.get(r).gone));
            case 4 -> state.rafts.stream().mapToInt(Raft::wealth).sum();
            default -> bits(all().filter(i -> a(i).how.equals(List.of("lies", "up", "lost").get(what))));
        };
    }

    // ---- what could be

    int needs(int a, int f) {
        if (noAnchor(a) || no(f, 1, 99)) {
            return BAD;
        }
        if (!a(a).lies()) {
            return STATE;
        }
        return IntStream.rangeClosed(1, 60).filter(n -> strength(a(a).with(n)) >= f).findFirst().orElse(NONE);
    }

    int after(int a, int f, int side) {
        if (noAnchor(a) || no(f, 1, 99) || no(side, 0, 1)) {
            return BAD;
        }
        Anchor then = behind(state, f, side).anchors.get(a);
        return then.lies() ? then.cell : NONE;
    }

    int wreck(int f, int n, int what) {
        if (no(f, 1, 99) || no(n, 0, 4) || no(what, 0, 1)) {
            return BAD;
        }
        int[] worst = worst(state, f, n);
        return what == 0 ? worst[0] - lost(state) : worst[1];
    }

    /** The worst of the rows from a state on: how many are lost at its end, and its sides. */
    private int[] worst(State from, int f, int n) {
        if (n == 0) {
            return new int[] {lost(from), 0};
        }
        int[] lower = worst(behind(from, f, 0), f, n - 1);
        int[] higher = worst(behind(from, f, 1), f, n - 1);
        return higher[0] > lower[0] ? new int[] {higher[0], 1 + 2 * higher[1]} : new int[] {lower[0], 2 * lower[1]};
    }

    int place(int set, int f, int a) {
        if (set < 0 || set >= 1 << state.anchors.size() || no(f, 1, 99) || noAnchor(a) || (set >> a) % 2 == 0) {
            return BAD;
        }
        List<Integer> members = all().filter(i -> (set >> i) % 2 == 1).boxed().toList();
        if (members.stream().anyMatch(i -> !a(i).lies())) {
            return STATE;
        }
        Set<Integer> taken = new HashSet<>();
        all().filter(i -> (set >> i) % 2 == 0 && a(i).lies()).forEach(i -> taken.add(a(i).cell));
        List<Integer> cells = new ArrayList<>();
        return lay(members, taken, cells, f) ? cells.get(members.indexOf(a)) : NONE;
    }

    private boolean lay(List<Integer> members, Set<Integer> taken, List<Integer> cells, int f) {
        if (cells.size() == members.size()) {
            return true;
        }
        for (int x = 0; x < 10; x++) {
            if (!taken.contains(x) && strength(a(members.get(cells.size())).in(x)) >= f) {
                taken.add(x);
                cells.add(x);
                if (lay(members, taken, cells, f)) {
                    return true;
                }
                cells.remove(cells.size() - 1);
                taken.remove(x);
            }
        }
        return false;
    }

    int vital(int r, int f) {
        if (noRaft(r) || no(f, 1, 99)) {
            return BAD;
        }
        int those = 0;
        State kept = state;
        int might = might(r);
        for (int i = 0; i < kept.anchors.size(); i++) {
            if (a(i).lies()) {
                state = kept.anchor(i, a(i).in(-1));
                those += might >= f && might(r) < f ? 1 << i : 0;
                state = kept;
            }
        }
        return those;
    }

    int odds(int a, int m, int n, int what) {
        if (noAnchor(a) || no(m, 1, 99) || no(n, 0, 4) || no(what, 0, 1)) {
            return BAD;
        }
        if (!a(a).lies()) {
            return STATE;
        }
        long held = IntStream.rangeClosed(1, m).filter(f -> f <= hold(state, a(a).cell)).count();
        BigInteger upper = BigInteger.valueOf(held).pow(n);
        BigInteger lower = BigInteger.valueOf(m).pow(n);
        return (what == 0 ? upper : lower).divide(upper.gcd(lower)).intValueExact();
    }

    // ---- which it was

    int hears(int f, int held) {
        if (no(f, 1, 99) || no(held, 0, 1)) {
            return BAD;
        }
        if (heard.size() == 6) {
            return FULL;
        }
        heard.add(new int[] {f, held});
        return heard.size();
    }

    int forget() {
        int had = heard.size();
        heard.clear();
        return had;
    }

    private boolean fit(Anchor a) {
        return a.lies() && heard.stream().allMatch(h -> strength(a) >= h[0] == (h[1] == 1));
    }

    int fits() {
        return bits(all().filter(i -> fit(a(i))));
    }

    int ask() {
        List<Integer> strengths = state.anchors.stream().filter(this::fit).map(this::strength).toList();
        int best = NONE;
        long least = Long.MAX_VALUE;
        for (int f = 1; f <= 99; f++) {
            int force = f;
            long holders = strengths.stream().filter(s -> s >= force).count();
            long others = strengths.size() - holders;
            if (holders > 0 && others > 0 && Math.max(holders, others) < least) {
                least = Math.max(holders, others);
                best = f;
            }
        }
        return best;
    }

    // ---- kinds, images

    private int leaves(int n) {
        trace = trace.add(BigInteger.valueOf(n));
        return 0;
    }

    private int ring(int a) {
        return leaves(1) + strength(a(a));
    }

    private int kedge(int a) {
        return leaves(10) + ring(a) + a(a).iron.worth;
    }

    private int stone(int a) {
        return leaves(100) + ring(a) - a(a).age;
    }

    int mark(int kind, int a) {
        if (no(kind, 0, 5) || noAnchor(a)) {
            return NO;
        }
        return switch (kind) {
            case 0 -> ring(a);
            case 1 -> kedge(a);
            case 2 -> stone(a);
            case 3 -> leaves(1000) + 2 * kedge(a);
            case 4 -> leaves(10000) + stone(a) + a;
            default -> leaves(100000) + ring(a) + state.rafts.get(a(a).iron.owner).wealth;
        };
    }

    int keep(int image) {
        if (no(image, 0, 1)) {
            return BAD;
        }
        images.put(image, new Image(state, List.copyOf(past)));
        return now(0);
    }

    int back(int image) {
        if (no(image, 0, 1)) {
            return BAD;
        }
        if (!images.containsKey(image)) {
            return STATE;
        }
        state = images.get(image).state;
        past = new ArrayDeque<>(images.get(image).past);
        return now(0);
    }

    int count(int what) {
        int[] counts = {state.rafts.size(), state.anchors.size(), ropes.size(), heard.size(), past.size(), text.length()};
        return no(what, 0, 5) ? BAD : counts[what];
    }

    long trace() {
        return trace.longValueExact();
    }
}
