import java.util.ArrayDeque;
import java.util.ArrayList;
import java.util.Collections;
import java.util.Comparator;
import java.util.HashMap;
import java.util.HashSet;
import java.util.IdentityHashMap;
import java.util.List;
import java.util.Map;
import java.util.Random;
import java.util.Set;
import java.util.TreeMap;

/**
 * Long runs of calls, made from fixed seeds, on the class and on a slow second writing of the
 * document (Model) side by side. The seeds are fixed, so a fault can be run again.
 */
public final class OracleTest {
    private static final int NONE = -1;
    private static final int CALLS = 512;

    public static void main(String[] args) {
        int seeds = args.length > 0 ? Integer.parseInt(args[0]) : 1500;
        Map<String, Integer> seen = new TreeMap<>();
        for (int seed = 0; seed < seeds; seed++) {
            Bench bench = new Bench(seed, seen);
            bench.play(seed % 6);
            if (bench.fault != null) {
                System.out.println("seed " + seed + ":");
                bench.log.forEach(row -> System.out.println("  " + row));
                System.out.println(bench.fault);
                System.exit(1);
            }
        }
        for (String need : NEEDED) {
            if (!seen.containsKey(need)) {
                System.out.println("no run came to: " + need);
                System.exit(1);
            }
        }
        if (args.length > 1) {
            System.out.println(seen);
        }
        System.out.println("class and model agree on " + seeds + " runs");
    }

    /** Answers that the runs must have come to, or else they tell too little. */
    private static final String[] NEEDED = {
        "atom S", "pair S", "dual S", "axiom S", "link S", "cut S", "link A", "cut A",
        "judge 0", "judge 1", "judge 2", "judge 3", "fault 1", "fault 2",
        "reduce 1", "reduce 0", "normalise 4", "normalise refused", "same 1", "same 0 of nets",
        "rule 5", "linkings 2", "linkings 24", "linkings -1", "partner 7", "build 11", "build -1"};

    interface Call {
        int on(Face x);
    }

    /** What the class and the model have in common. */
    interface Face {
        int atom(int letter, boolean plain);

        int pair(int left, int right, boolean tensor);

        int dual(int f);

        int formula(int f, int what);

        int clear();

        int axiom(int f);

        int link(int left, int right, boolean tensor);

        int cut(int left, int right);

        int conclude(int edge);

        int look(int link, int what);

        int type(int edge);

        int conclusion(int i);

        int links();

        int judge();

        int fault();

        int cuts();

        boolean reduce(int c);

        int normalise(int pick);

        void keep();

        boolean same();

        int rule(int i);

        int linkings(int f);

        int partner(int f, int i, int k);

        int build(int f, int i);
    }

    /** Plays runs of calls on both and stops at the first answer in which they differ. */
    static final class Bench {
        final Random random;
        final Face tested = new Tested();
        final Model model = new Model();
        final Map<String, Integer> seen;
        final List<String> log = new ArrayList<>();
        String fault = null;
        int calls = 0;

        Bench(int seed, Map<String, Integer> seen) {
            this.random = new Random(seed);
            this.seen = seen;
        }

        boolean goesOn() {
            return fault == null && calls < CALLS;
        }

        int call(String name, String arguments, Call c) {
            if (!goesOn()) {
                return NONE;
            }
            calls++;
            String got = answer(c, tested);
            String want = answer(c, model);
            log.add(name + "(" + arguments + ") = " + got);
            note(name + " " + want);
            if (!got.equals(want)) {
                fault = name + "(" + arguments + ") answered " + got + ", the model " + want;
            }
            return want.equals("A") || want.equals("S") ? NONE : Integer.parseInt(want);
        }

        void note(String what) {
            seen.merge(what, 1, Integer::sum);
        }

        static String answer(Call c, Face x) {
            try {
                return Integer.toString(c.on(x));
            } catch (IllegalArgumentException e) {
                return "A";
            } catch (IllegalStateException e) {
                return "S";
            } catch (RuntimeException e) {
                return e.toString();
            }
        }

        int atom(int letter, boolean plain) {
            return call("atom", letter + ", " + plain, x -> x.atom(letter, plain));
        }

        int pair(int l, int r, boolean tensor) {
            return call("pair", l + ", " + r + ", " + tensor, x -> x.pair(l, r, tensor));
        }

        int dual(int f) {
            return call("dual", "" + f, x -> x.dual(f));
        }

        int formula(int f, int what) {
            return call("formula", f + ", " + what, x -> x.formula(f, what));
        }

        int clear() {
            return call("clear", "", x -> x.clear());
        }

        int axiom(int f) {
            return call("axiom", "" + f, x -> x.axiom(f));
        }

        int link(int l, int r, boolean tensor) {
            return call("link", l + ", " + r + ", " + tensor, x -> x.link(l, r, tensor));
        }

        int cut(int l, int r) {
            return call("cut", l + ", " + r, x -> x.cut(l, r));
        }

        int conclude(int e) {
            return call("conclude", "" + e, x -> x.conclude(e));
        }

        int look(int l, int what) {
            return call("look", l + ", " + what, x -> x.look(l, what));
        }

        int judge() {
            if (chance(50)) {
                call("fault", "", x -> x.fault());
            }
            int verdict = call("judge", "", x -> x.judge());
            call("fault", "", x -> x.fault());
            return verdict;
        }

        boolean reduce(int c) {
            return call("reduce", "" + c, x -> x.reduce(c) ? 1 : 0) == 1;
        }

        int normalise(int pick) {
            boolean net = model.judge() == 0;
            int steps = call("normalise", "" + pick, x -> x.normalise(pick));
            if (net && pick >= 0 && steps == NONE) {
                note("normalise refused");
            }
            return steps;
        }

        void keep() {
            call("keep", "", x -> {
                x.keep();
                return 0;
            });
        }

        boolean same() {
            boolean is = call("same", "", x -> x.same() ? 1 : 0) == 1;
            if (!is && model.judge() == 0 && model.isNet(model.kept)) {
                note("same 0 of nets");
            }
            return is;
        }

        int linkings(int f) {
            return call("linkings", "" + f, x -> x.linkings(f));
        }

        int partner(int f, int i, int k) {
            return call("partner", f + ", " + i + ", " + k, x -> x.partner(f, i, k));
        }

        int build(int f, int i) {
            return call("build", f + ", " + i, x -> x.build(f, i));
        }

        void proof() {
            for (int i = 0; i <= model.links() && goesOn(); i++) {
                int at = i;
                call("rule", "" + at, x -> x.rule(at));
            }
        }

        /** Everything that can be seen of the structure. */
        void inspect() {
            for (int l = 0; l < model.madeLinks() + 1 && goesOn(); l++) {
                if (l < 60 && (model.links() > 0 || l == 0)) {
                    for (int what = 0; what < 4; what++) {
                        look(l, what);
                    }
                }
            }
            for (int i = 0; i <= model.conclusions() && goesOn(); i++) {
                int at = i;
                call("conclusion", "" + at, x -> x.conclusion(at));
            }
            call("links", "", x -> x.links());
            call("cuts", "", x -> x.cuts());
        }

        int any(int bound) {
            return random.nextInt(bound);
        }

        boolean chance(int percent) {
            return random.nextInt(100) < percent;
        }

        void play(int kind) {
            switch (kind) {
                case 0:
                    playWild();
                    break;
                case 1:
                    playFormulas();
                    break;
                case 2:
                    playNets();
                    break;
                case 3:
                    playExpansions();
                    break;
                case 4:
                    playLinkings();
                    break;
                default:
                    playWear();
                    break;
            }
        }

        /** Any call with any argument, a little outside what there is. */
        void playWild() {
            int letters = 1 + any(2);
            for (int i = 0; i < 4; i++) {
                atom(any(letters), chance(50));
            }
            while (goesOn()) {
                int edges = model.madeEdges() + 2;
                int e = any(edges) - 1;
                int g = any(edges) - 1;
                int f = any(model.formulas.size() + 2) - 1;
                int what = any(6) - 1;
                switch (any(26)) {
                    case 0:
                        atom(any(10) - 1, chance(50));
                        break;
                    case 1:
                        pair(any(6) - 1, f, chance(50));
                        break;
                    case 2:
                        dual(f);
                        break;
                    case 3:
                        formula(f, what);
                        break;
                    case 4:
                        if (chance(10)) {
                            clear();
                        }
                        break;
                    case 5: case 6: case 7:
                        axiom(any(4));
                        break;
                    case 8: case 9:
                        link(e, g, chance(50));
                        break;
                    case 10: case 11:
                        cut(e, g);
                        break;
                    case 12: case 13:
                        conclude(e);
                        break;
                    case 14:
                        concludeAll();
                        break;
                    case 15:
                        int l = any(model.madeLinks() + 2) - 1;
                        look(l, what);
                        break;
                    case 16:
                        call("type", "" + e, x -> x.type(e));
                        break;
                    case 17:
                        judge();
                        break;
                    case 18:
                        reduce(any(4) - 1);
                        break;
                    case 19:
                        normalise(any(6) - 1);
                        break;
                    case 20:
                        keep();
                        break;
                    case 21:
                        same();
                        break;
                    case 22:
                        int i = any(5) - 1;
                        call("rule", "" + i, x -> x.rule(i));
                        break;
                    case 23:
                        linkings(f);
                        break;
                    case 24:
                        partner(f, any(3) - 1, any(5) - 1);
                        break;
                    default:
                        if (chance(30)) {
                            build(f, any(3) - 1);
                        }
                        break;
                }
            }
        }

        void playFormulas() {
            for (int i = 0; i < 2 + any(4); i++) {
                atom(any(8), chance(50));
            }
            while (goesOn()) {
                int n = model.formulas.size();
                int f = any(n + 2) - 1;
                switch (any(6)) {
                    case 0:
                        atom(any(10) - 1, chance(50));
                        break;
                    case 1: case 2:
                        pair(f, any(n + 1) - (chance(10) ? 1 : 0), chance(50));
                        break;
                    case 3:
                        if (chance(40)) {
                            dual(f);
                        }
                        break;
                    case 4:
                        linkings(f);
                        break;
                    default:
                        formula(f, any(5) - 1);
                        formula(n - 1, 0);
                        formula(n - 1, 1);
                        formula(n - 1, 2);
                        formula(n, 0);
                        if (chance(10)) {
                            axiom(f);
                        }
                        break;
                }
            }
        }

        void concludeAll() {
            List<Integer> free = model.freeEdges();
            Collections.shuffle(free, random);
            for (int e : free) {
                conclude(e);
            }
        }

        /** Draws nets as proofs are made, now and then with a mistake. */
        void playNets() {
            for (int i = 0; i < 2 + any(3); i++) {
                atom(any(2), chance(50));
            }
            while (goesOn()) {
                clear();
                int mistakes = chance(60) ? 0 : 15;
                int steps = 5 + any(30);
                for (int i = 0; i < steps && goesOn(); i++) {
                    drawOne(mistakes);
                }
                joinPieces(mistakes);
                concludeAll();
                judge();
                afterwards();
            }
        }

        void drawOne(int mistakes) {
            List<Integer> free = model.freeEdges();
            if (free.size() < 2 || chance(35)) {
                axiom(any(Math.min(8, model.formulas.size())));
                return;
            }
            int e = free.get(any(free.size()));
            int g = free.get(any(free.size()));
            boolean together = model.pieceOf(e) == model.pieceOf(g);
            if (chance(mistakes)) {
                together = !together;
            }
            if (together) {
                link(e, g, false);
            } else if (!tryCut(e, free, mistakes) || chance(40)) {
                link(e, g, true);
            }
        }

        boolean tryCut(int e, List<Integer> free, int mistakes) {
            if (chance(30)) {
                return false;
            }
            for (int g : free) {
                if (model.areDual(e, g) && (model.pieceOf(e) != model.pieceOf(g) || chance(mistakes))) {
                    cut(chance(50) ? e : g, chance(50) ? e : g);
                    return true;
                }
            }
            return false;
        }

        void joinPieces(int mistakes) {
            for (int i = 0; i < 12 && goesOn() && !chance(mistakes); i++) {
                List<Integer> free = model.freeEdges();
                for (int j = 1; j < free.size(); j++) {
                    if (model.pieceOf(free.get(0)) != model.pieceOf(free.get(j))) {
                        link(free.get(0), free.get(j), true);
                        break;
                    }
                }
            }
        }

        void afterwards() {
            if (chance(70)) {
                proof();
            }
            if (chance(30)) {
                inspect();
            }
            same();
            if (chance(60)) {
                keep();
                same();
            }
            if (chance(50)) {
                for (int i = 0; i < 3 && model.cuts() > 0; i++) {
                    reduce(any(model.cuts() + 1));
                    judge();
                }
                inspect();
            }
            if (chance(60)) {
                normalise(any(7));
                judge();
                inspect();
                same();
                proof();
            }
        }

        /** Nets of a formula and its dual, drawn in many ways, cut against one another. */
        void playExpansions() {
            int letters = 1 + any(2);
            List<Integer> bases = new ArrayList<>();
            for (int i = 0; i < 3; i++) {
                bases.add(atom(any(letters), chance(50)));
            }
            int f = bases.get(0);
            int size = 2 + any(3);
            for (int i = 1; i < size; i++) {
                int g = bases.get(any(3));
                f = chance(50) ? pair(f, g, chance(50)) : pair(g, f, chance(50));
            }
            dual(f);
            while (goesOn()) {
                drawExpansions(f);
                keep();
                boolean other = chance(50);
                if (chance(50)) {
                    drawExpansions(f);
                }
                same();
                if (other) {
                    proof();
                    inspect();
                }
                int before = calls;
                normalise(any(5));
                if (calls > before && chance(50)) {
                    inspect();
                }
                same();
                keep();
                if (chance(70)) {
                    drawExpansions(f);
                    for (int i = 0; i < 30 && model.cuts() > 0 && goesOn(); i++) {
                        reduce(any(model.cuts()));
                    }
                    same();
                    judge();
                }
                if (chance(30)) {
                    proof();
                }
            }
        }

        void drawExpansions(int f) {
            clear();
            int[] first = expand(f, chance(20) ? 0 : 9);
            int[] second = expand(f, chance(20) ? 0 : 9);
            if (first == null || second == null) {
                return;
            }
            if (chance(50)) {
                cut(first[1], second[0]);
            } else {
                cut(second[0], first[1]);
            }
            if (chance(20)) {
                int[] third = expand(f, 0);
                if (third != null) {
                    cut(second[1], third[0]);
                    second = third;
                }
            }
            if (chance(30)) {
                link(first[0], second[1], false);
                concludeAll();
            } else if (chance(20)) {
                concludeAll();
            } else {
                conclude(first[0]);
                conclude(second[1]);
            }
        }

        /** The edges of a formula and its dual, by axioms of parts that deep. */
        int[] expand(int f, int depth) {
            int kind = model.formula(f, 0);
            if (kind == NONE || !goesOn()) {
                return null;
            }
            if (kind == 0 || depth == 0) {
                return chance(50) ? edgesOf(axiom(f)) : turned(edgesOf(axiom(dual(f))));
            }
            boolean leftFirst = chance(50);
            int l = model.formula(f, 1);
            int r = model.formula(f, 2);
            int[] one = expand(leftFirst ? l : r, depth - 1);
            int[] two = expand(leftFirst ? r : l, depth - 1);
            if (one == null || two == null) {
                return null;
            }
            int[] left = leftFirst ? one : two;
            int[] right = leftFirst ? two : one;
            int[] answer = new int[2];
            boolean wholeFirst = chance(50);
            for (int i = 0; i < 2; i++) {
                int side = wholeFirst ? i : 1 - i;
                int link = link(left[side], right[side], (kind == 1) == (side == 0));
                if (link == NONE) {
                    return null;
                }
                answer[side] = model.look(link, 3);
            }
            return answer;
        }

        int[] edgesOf(int axiom) {
            return axiom == NONE ? null : new int[] {model.look(axiom, 1), model.look(axiom, 2)};
        }

        static int[] turned(int[] edges) {
            return edges == null ? null : new int[] {edges[1], edges[0]};
        }

        void playLinkings() {
            while (goesOn()) {
                int size = 2 * (1 + any(4)) + (chance(10) ? 1 : 0);
                int letters = 1 + any(2);
                List<Integer> parts = new ArrayList<>();
                for (int i = 0; i < size; i++) {
                    parts.add(atom(any(letters), i % 2 == 0));
                }
                if (chance(30)) {
                    Collections.sort(parts);
                } else {
                    Collections.shuffle(parts, random);
                }
                int tensors = chance(70) ? size / 2 - 1 : any(size);
                List<Boolean> kinds = new ArrayList<>();
                for (int i = 1; i < size; i++) {
                    kinds.add(i <= tensors);
                }
                if (chance(70)) {
                    Collections.shuffle(kinds, random);
                }
                boolean plainest = chance(20);
                while (parts.size() > 1 && goesOn()) {
                    int at = plainest ? 0 : any(parts.size() - 1);
                    int f = pair(parts.get(at), parts.remove(at + 1), kinds.remove(0));
                    parts.set(at, f);
                    if (f == NONE) {
                        break;
                    }
                }
                useLinkings(parts.get(0));
                if (chance(10)) {
                    useLinkings(any(model.formulas.size()));
                }
                if (model.formulas.size() > 78) {
                    return;
                }
            }
        }

        void useLinkings(int f) {
            int n = linkings(f);
            for (int i = 0; i < 3; i++) {
                int at = any(n + 2) - 1;
                for (int k = 0; k < 9; k++) {
                    if (chance(40)) {
                        partner(f, at, k);
                    }
                }
                if (build(f, at) > 0) {
                    judge();
                    same();
                    if (chance(30)) {
                        inspect();
                        proof();
                    }
                    if (chance(50)) {
                        keep();
                    }
                }
            }
        }

        /** Makes most of the links that there can be in all, then a net with cuts. */
        void playWear() {
            int a = atom(0, true);
            int free = model.look(axiom(a), 2);
            int times = 14 + any(14);
            for (int i = 0; i < times; i++) {
                int next = axiom(a);
                cut(free, model.look(next, 1));
                reduce(0);
                free = model.look(next, 2);
            }
            int f = a;
            for (int i = 0; i < 1 + any(2); i++) {
                f = pair(f, a, chance(50));
            }
            int g = f;
            int[] first = expand(g, 9);
            int[] second = expand(g, 9);
            if (first != null && second != null) {
                cut(first[1], second[0]);
                if (chance(50)) {
                    link(free, first[0], true);
                } else {
                    cut(free, model.freeEdges().get(0));
                    link(free, first[0], true);
                }
            }
            concludeAll();
            judge();
            keep();
            int pick = any(4);
            while (normalise(pick) == NONE && model.cuts() > 0 && goesOn()) {
                inspect();
                same();
                if (!reduce(any(model.cuts() + 1)) && chance(30)) {
                    break;
                }
            }
            inspect();
            same();
            for (int i = 0; i < 4; i++) {
                axiom(a);
            }
        }
    }

    /** The class behind the common face. */
    static final class Tested implements Face {
        final SwitchedNets x = new SwitchedNets();

        public int atom(int letter, boolean plain) {
            return x.atom(letter, plain);
        }

        public int pair(int left, int right, boolean tensor) {
            return x.pair(left, right, tensor);
        }

        public int dual(int f) {
            return x.dual(f);
        }

        public int formula(int f, int what) {
            return x.formula(f, what);
        }

        public int clear() {
            return x.clear();
        }

        public int axiom(int f) {
            return x.axiom(f);
        }

        public int link(int left, int right, boolean tensor) {
            return x.link(left, right, tensor);
        }

        public int cut(int left, int right) {
            return x.cut(left, right);
        }

        public int conclude(int edge) {
            return x.conclude(edge);
        }

        public int look(int link, int what) {
            return x.look(link, what);
        }

        public int type(int edge) {
            return x.type(edge);
        }

        public int conclusion(int i) {
            return x.conclusion(i);
        }

        public int links() {
            return x.links();
        }

        public int judge() {
            return x.judge();
        }

        public int fault() {
            return x.fault();
        }

        public int cuts() {
            return x.cuts();
        }

        public boolean reduce(int c) {
            return x.reduce(c);
        }

        public int normalise(int pick) {
            return x.normalise(pick);
        }

        public void keep() {
            x.keep();
        }

        public boolean same() {
            return x.same();
        }

        public int rule(int i) {
            return x.rule(i);
        }

        public int linkings(int f) {
            return x.linkings(f);
        }

        public int partner(int f, int i, int k) {
            return x.partner(f, i, k);
        }

        public int build(int f, int i) {
            return x.build(f, i);
        }
    }

    record Formula(int kind, int left, int right) {
    }

    /** An edge is known by itself; where it stands is found in the links and names. */
    static final class Edge {
        final int number;
        final int formula;

        Edge(int number, int formula) {
            this.number = number;
            this.formula = formula;
        }
    }

    /** A link above has its premises, and below its edges: two, one or none. */
    static final class Link {
        final int number;
        final int kind;
        final List<Edge> above = new ArrayList<>();
        final List<Edge> below = new ArrayList<>();

        Link(int number, int kind) {
            this.number = number;
            this.kind = kind;
        }
    }

    static final class Drawing {
        final List<Link> links = new ArrayList<>();
        final List<Edge> names = new ArrayList<>();
        int madeLinks = 0;
        int madeEdges = 0;

        Drawing copy() {
            Drawing d = new Drawing();
            for (Link l : links) {
                Link m = new Link(l.number, l.kind);
                m.above.addAll(l.above);
                m.below.addAll(l.below);
                d.links.add(m);
            }
            d.names.addAll(names);
            d.madeLinks = madeLinks;
            d.madeEdges = madeEdges;
            return d;
        }

        Edge edge(int number) {
            for (Link l : links) {
                for (Edge e : l.below) {
                    if (e.number == number) {
                        return e;
                    }
                }
            }
            return null;
        }

        Link from(Edge e) {
            for (Link l : links) {
                if (l.below.contains(e)) {
                    return l;
                }
            }
            return null;
        }

        Link to(Edge e) {
            for (Link l : links) {
                if (l.above.contains(e)) {
                    return l;
                }
            }
            return null;
        }

        boolean free(Edge e) {
            return e != null && to(e) == null && !names.contains(e);
        }

        List<Link> ofKind(int kind) {
            List<Link> all = new ArrayList<>();
            for (Link l : links) {
                if (l.kind == kind) {
                    all.add(l);
                }
            }
            all.sort(Comparator.comparingInt(l -> l.number));
            return all;
        }

        Link draw(int kind, List<Edge> premises, int... formulas) {
            Link l = new Link(madeLinks++, kind);
            l.above.addAll(premises);
            for (int f : formulas) {
                l.below.add(new Edge(madeEdges++, f));
            }
            links.add(l);
            return l;
        }

        boolean complete() {
            for (Link l : links) {
                for (Edge e : l.below) {
                    if (free(e)) {
                        return false;
                    }
                }
            }
            return !links.isEmpty();
        }
    }

    /** The document written a second time, with no thought of speed. */
    static final class Model implements Face {
        List<Formula> formulas = new ArrayList<>();
        Drawing now = new Drawing();
        Drawing kept = new Drawing();
        final Map<Integer, List<int[]>> known = new HashMap<>();
        final Map<List<Object>, String> texts = new HashMap<>();
        final Map<String, Integer> shorts = new HashMap<>();

        int make(List<Formula> all, Formula f) {
            if (!all.contains(f)) {
                all.add(f);
            }
            return all.indexOf(f);
        }

        int makeDual(List<Formula> all, int f) {
            Formula of = all.get(f);
            Formula dual = dualIfThere(all, f);
            if (dual != null) {
                return all.indexOf(dual);
            }
            if (of.kind == 0) {
                return make(all, new Formula(0, of.left, 1 - of.right));
            }
            int l = makeDual(all, of.left);
            int r = makeDual(all, of.right);
            return make(all, new Formula(3 - of.kind, l, r));
        }

        Formula dualIfThere(List<Formula> all, int f) {
            for (Formula g : all) {
                if (text(all, all.indexOf(g), false).equals(text(all, f, true))) {
                    return g;
                }
            }
            return null;
        }

        /** A formula, or its dual, as a text; one that would be too long gets a short one instead. */
        String text(List<Formula> all, int f, boolean dual) {
            List<Object> key = List.of(all.get(f), dual, f);
            String t = texts.get(key);
            if (t == null) {
                Formula g = all.get(f);
                if (g.kind == 0) {
                    t = "" + (char) ('a' + g.left) + ((g.right == 1) != dual ? "" : "'");
                } else {
                    String l = text(all, g.left, dual);
                    String r = text(all, g.right, dual);
                    t = "(" + l + ((g.kind == 1) != dual ? "*" : "+") + r + ")";
                    if (t.length() > 200) {
                        t = "#" + shorts.computeIfAbsent(t, x -> shorts.size());
                    }
                }
                texts.put(key, t);
            }
            return t;
        }

        boolean has(int f) {
            return f >= 0 && f < formulas.size();
        }

        int settle(List<Formula> grown, int answer) {
            if (grown.size() > 80) {
                throw new IllegalStateException();
            }
            formulas = grown;
            return answer;
        }

        static void argument(boolean right) {
            if (!right) {
                throw new IllegalArgumentException();
            }
        }

        static void state(boolean right) {
            if (!right) {
                throw new IllegalStateException();
            }
        }

        public int atom(int letter, boolean plain) {
            argument(letter >= 0 && letter <= 7);
            List<Formula> grown = new ArrayList<>(formulas);
            return settle(grown, make(grown, new Formula(0, letter, plain ? 1 : 0)));
        }

        public int pair(int left, int right, boolean tensor) {
            argument(has(left) && has(right));
            List<Formula> grown = new ArrayList<>(formulas);
            return settle(grown, make(grown, new Formula(tensor ? 1 : 2, left, right)));
        }

        public int dual(int f) {
            argument(has(f));
            List<Formula> grown = new ArrayList<>(formulas);
            return settle(grown, makeDual(grown, f));
        }

        public int formula(int f, int what) {
            if (!has(f)) {
                return NONE;
            }
            Formula g = formulas.get(f);
            return what == 0 ? g.kind : what == 1 ? g.left : what == 2 ? g.right : NONE;
        }

        public int clear() {
            int n = now.links.size();
            now = new Drawing();
            return n;
        }

        boolean room(int kind, int edges) {
            return now.madeLinks + 1 <= 60 && now.madeEdges + edges <= 100 && now.links.size() + 1 <= 24
                    && (kind != 2 || now.ofKind(2).size() + 1 <= 8);
        }

        public int axiom(int f) {
            argument(has(f));
            state(room(0, 2));
            int d = dual(f);
            return now.draw(0, List.of(), f, d).number;
        }

        public int link(int left, int right, boolean tensor) {
            Edge l = now.edge(left);
            Edge r = now.edge(right);
            argument(now.free(l) && now.free(r) && l != r);
            state(room(tensor ? 1 : 2, 1));
            int f = pair(l.formula, r.formula, tensor);
            return now.draw(tensor ? 1 : 2, List.of(l, r), f).number;
        }

        boolean areDual(int e, int g) {
            return text(formulas, now.edge(e).formula, true).equals(text(formulas, now.edge(g).formula, false));
        }

        public int cut(int left, int right) {
            Edge l = now.edge(left);
            Edge r = now.edge(right);
            argument(now.free(l) && now.free(r) && areDual(left, right));
            state(room(3, 0));
            return now.draw(3, List.of(l, r)).number;
        }

        public int conclude(int edge) {
            Edge e = now.edge(edge);
            if (!now.free(e)) {
                return NONE;
            }
            now.names.add(e);
            return now.names.size() - 1;
        }

        public int look(int link, int what) {
            for (Link l : now.links) {
                if (l.number == link) {
                    List<Edge> two = l.kind == 0 ? l.below : l.above;
                    if (what == 3) {
                        return l.kind == 1 || l.kind == 2 ? l.below.get(0).number : NONE;
                    }
                    return what == 0 ? l.kind : what == 1 || what == 2 ? two.get(what - 1).number : NONE;
                }
            }
            return NONE;
        }

        public int type(int edge) {
            Edge e = now.edge(edge);
            return e == null ? NONE : e.formula;
        }

        public int conclusion(int i) {
            return i < 0 || i >= now.names.size() ? NONE : now.names.get(i).number;
        }

        public int links() {
            return now.links.size();
        }

        int madeLinks() {
            return now.madeLinks;
        }

        int madeEdges() {
            return now.madeEdges;
        }

        int conclusions() {
            return now.names.size();
        }

        List<Integer> freeEdges() {
            List<Integer> all = new ArrayList<>();
            for (Link l : now.links) {
                for (Edge e : l.below) {
                    if (now.free(e)) {
                        all.add(e.number);
                    }
                }
            }
            return all;
        }

        /** The least number among the links that are joined, by all premises, to the edge's. */
        int pieceOf(int edge) {
            Set<Link> piece = piece(now, now.from(now.edge(edge)), new HashSet<>(now.links));
            return piece.stream().mapToInt(l -> l.number).min().getAsInt();
        }

        static Set<Link> piece(Drawing d, Link start, Set<Link> within) {
            Set<Link> piece = new HashSet<>();
            ArrayDeque<Link> open = new ArrayDeque<>(List.of(start));
            while (!open.isEmpty()) {
                Link l = open.pop();
                if (within.contains(l) && piece.add(l)) {
                    for (Edge e : l.above) {
                        open.push(d.from(e));
                    }
                    for (Edge e : l.below) {
                        if (d.to(e) != null) {
                            open.push(d.to(e));
                        }
                    }
                }
            }
            return piece;
        }

        /** The joints of a switching's graph. */
        static List<Link[]> graph(Drawing d, int switching) {
            List<Link> pars = d.ofKind(2);
            List<Link[]> joints = new ArrayList<>();
            for (Link l : d.links) {
                for (int side = 0; side < l.above.size(); side++) {
                    if (l.kind != 2 || (switching / (1 << pars.indexOf(l))) % 2 == side) {
                        joints.add(new Link[] {d.from(l.above.get(side)), l});
                    }
                }
            }
            return joints;
        }

        /** Takes away what hangs by one joint or none, again and again: what stays is on a cycle. */
        static boolean hasCycle(List<Link[]> joints) {
            List<Link[]> rest = new ArrayList<>(joints);
            boolean changed = true;
            while (changed) {
                Map<Link, Integer> degree = new IdentityHashMap<>();
                for (Link[] j : rest) {
                    degree.merge(j[0], 1, Integer::sum);
                    degree.merge(j[1], 1, Integer::sum);
                }
                changed = rest.removeIf(j -> degree.get(j[0]) == 1 || degree.get(j[1]) == 1);
            }
            return !rest.isEmpty();
        }

        static boolean isConnected(Drawing d, List<Link[]> joints) {
            Set<Link> reached = new HashSet<>(Set.of(d.links.get(0)));
            boolean changed = true;
            while (changed) {
                changed = false;
                for (Link[] j : joints) {
                    if (reached.contains(j[0]) != reached.contains(j[1])) {
                        reached.add(j[0]);
                        reached.add(j[1]);
                        changed = true;
                    }
                }
            }
            return reached.size() == d.links.size();
        }

        /** The verdict and the fault. */
        static int[] verdict(Drawing d) {
            if (!d.complete()) {
                return new int[] {3, NONE};
            }
            int switchings = 1 << d.ofKind(2).size();
            for (int s = 0; s < switchings; s++) {
                if (hasCycle(graph(d, s))) {
                    return new int[] {1, s};
                }
            }
            for (int s = 0; s < switchings; s++) {
                if (!isConnected(d, graph(d, s))) {
                    return new int[] {2, s};
                }
            }
            return new int[] {0, NONE};
        }

        boolean isNet(Drawing d) {
            return verdict(d)[0] == 0;
        }

        public int judge() {
            return verdict(now)[0];
        }

        public int fault() {
            return verdict(now)[1];
        }

        public int cuts() {
            return now.ofKind(3).size();
        }

        public boolean reduce(int c) {
            List<Link> cuts = now.ofKind(3);
            return c >= 0 && c < cuts.size() && reduceCut(now, cuts.get(c));
        }

        static boolean reduceCut(Drawing d, Link cut) {
            Edge l = cut.above.get(0);
            Edge r = cut.above.get(1);
            Link up = d.from(l);
            Link other = d.from(r);
            if (up == other) {
                return false;
            }
            if (up.kind == 0) {
                passBy(d, cut, up, l, r);
                return true;
            }
            if (other.kind == 0) {
                passBy(d, cut, other, r, l);
                return true;
            }
            if (d.madeLinks + 2 > 60) {
                return false;
            }
            d.links.removeAll(List.of(cut, up, other));
            for (int side = 0; side < 2; side++) {
                d.draw(3, List.of(up.above.get(side), other.above.get(side)));
            }
            return true;
        }

        static void passBy(Drawing d, Link cut, Link axiom, Edge premise, Edge stays) {
            Edge leaves = axiom.below.get(axiom.below.get(0) == premise ? 1 : 0);
            d.links.remove(cut);
            d.links.remove(axiom);
            for (Link l : d.links) {
                Collections.replaceAll(l.above, leaves, stays);
            }
            Collections.replaceAll(d.names, leaves, stays);
        }

        public int normalise(int pick) {
            if (pick < 0 || !isNet(now)) {
                return NONE;
            }
            Drawing trial = now.copy();
            int steps = 0;
            while (!trial.ofKind(3).isEmpty()) {
                List<Link> cuts = trial.ofKind(3);
                if (!reduceCut(trial, cuts.get(pick % cuts.size()))) {
                    return NONE;
                }
                steps++;
            }
            now = trial;
            return steps;
        }

        public void keep() {
            kept = now.copy();
        }

        public boolean same() {
            return isNet(now) && isNet(kept) && now.links.size() == kept.links.size()
                    && now.names.size() == kept.names.size() && new Laying(now, kept).exists();
        }

        public int rule(int i) {
            if (!isNet(now)) {
                return NONE;
            }
            List<Link> row = new ArrayList<>();
            prove(now, new HashSet<>(now.links), row);
            return i >= 0 && i < row.size() ? row.get(i).number : NONE;
        }

        static void prove(Drawing d, Set<Link> left, List<Link> row) {
            List<Link> ordered = new ArrayList<>(left);
            ordered.sort(Comparator.comparingInt(l -> l.number));
            if (ordered.size() == 1) {
                row.add(ordered.get(0));
                return;
            }
            for (Link l : ordered) {
                if (l.kind == 2 && !left.contains(d.to(l.below.get(0)))) {
                    row.add(l);
                    left.remove(l);
                    prove(d, left, row);
                    return;
                }
            }
            for (Link l : ordered) {
                if (l.kind == 3 || l.kind == 1 && !left.contains(d.to(l.below.get(0)))) {
                    Set<Link> rest = new HashSet<>(left);
                    rest.remove(l);
                    Set<Link> one = piece(d, d.from(l.above.get(0)), rest);
                    Set<Link> two = piece(d, d.from(l.above.get(1)), rest);
                    if (Collections.disjoint(one, two) && one.size() + two.size() == rest.size()) {
                        row.add(l);
                        prove(d, one, row);
                        prove(d, two, row);
                        return;
                    }
                }
            }
            throw new ArithmeticException("a net has no last rule");
        }

        int occurrences(int f) {
            Formula g = formulas.get(f);
            if (g.kind == 0) {
                return 1;
            }
            int l = occurrences(g.left);
            return l > 8 ? l : Math.min(9, l + occurrences(g.right));
        }

        void atoms(int f, List<Formula> all) {
            Formula g = formulas.get(f);
            if (g.kind == 0) {
                all.add(g);
            } else {
                atoms(g.left, all);
                atoms(g.right, all);
            }
        }

        /** Tries every row of partners, in the order of rows. */
        List<int[]> allLinkings(int f) {
            if (!known.containsKey(f)) {
                List<Formula> atoms = new ArrayList<>();
                atoms(f, atoms);
                List<int[]> all = new ArrayList<>();
                if (atoms.size() % 2 == 0) {
                    tryPartners(f, atoms, new int[atoms.size()], 0, all);
                }
                known.put(f, all);
            }
            return known.get(f);
        }

        void tryPartners(int f, List<Formula> atoms, int[] row, int k, List<int[]> all) {
            if (k == row.length) {
                if (isNet(structure(f, row))) {
                    all.add(row.clone());
                }
                return;
            }
            for (int p = 0; p < row.length; p++) {
                Formula a = atoms.get(k);
                Formula b = atoms.get(p);
                if (a.left == b.left && a.right != b.right && fits(row, k, p)) {
                    row[k] = p;
                    tryPartners(f, atoms, row, k + 1, all);
                }
            }
        }

        /** Whether p as the partner of k goes with the partners that occurrences before k have. */
        static boolean fits(int[] row, int k, int p) {
            for (int before = 0; before < k; before++) {
                if ((row[before] == k) != (p == before) || row[before] == p) {
                    return false;
                }
            }
            return true;
        }

        Drawing structure(int f, int[] row) {
            Drawing d = new Drawing();
            List<Formula> atoms = new ArrayList<>();
            atoms(f, atoms);
            Edge[] edges = new Edge[row.length];
            for (int k = 0; k < row.length; k++) {
                if (edges[k] == null) {
                    Link l = d.draw(0, List.of(), formulas.indexOf(atoms.get(k)), formulas.indexOf(atoms.get(row[k])));
                    edges[k] = l.below.get(0);
                    edges[row[k]] = l.below.get(1);
                }
            }
            d.names.add(whole(d, f, new ArrayDeque<>(List.of(edges))));
            return d;
        }

        Edge whole(Drawing d, int f, ArrayDeque<Edge> edges) {
            Formula g = formulas.get(f);
            if (g.kind == 0) {
                return edges.pop();
            }
            Edge l = whole(d, g.left, edges);
            Edge r = whole(d, g.right, edges);
            return d.draw(g.kind, List.of(l, r), f).below.get(0);
        }

        public int linkings(int f) {
            return !has(f) || occurrences(f) > 8 ? NONE : allLinkings(f).size();
        }

        public int partner(int f, int i, int k) {
            if (i < 0 || i >= linkings(f)) {
                return NONE;
            }
            int[] row = allLinkings(f).get(i);
            return k < 0 || k >= row.length ? NONE : row[k];
        }

        public int build(int f, int i) {
            if (i < 0 || i >= linkings(f)) {
                return NONE;
            }
            now = structure(f, allLinkings(f).get(i));
            return now.links.size();
        }
    }

    /** Seeks a way to lay one drawing over another one by trying all links for each link. */
    static final class Laying {
        final Drawing a;
        final Drawing b;
        final List<Link> order;
        final Map<Edge, Edge> to = new IdentityHashMap<>();
        final Map<Edge, Edge> back = new IdentityHashMap<>();

        Laying(Drawing a, Drawing b) {
            this.a = a;
            this.b = b;
            order = new ArrayList<>(a.links);
            // What stands lowest first: there the names leave little to try.
            order.sort(Comparator.comparingInt(l -> l.kind == 0 ? 1000 : -l.number));
        }

        boolean exists() {
            return lay(0, new HashSet<>());
        }

        boolean lay(int i, Set<Link> used) {
            if (i == order.size()) {
                return true;
            }
            Link l = order.get(i);
            for (Link m : b.links) {
                if (m.kind == l.kind && !used.contains(m)) {
                    for (int turn = 0; turn < (l.kind == 0 ? 2 : 1); turn++) {
                        List<Edge> pairs = new ArrayList<>();
                        if (put(l, m, turn == 1, pairs)) {
                            used.add(m);
                            if (lay(i + 1, used)) {
                                return true;
                            }
                            used.remove(m);
                        }
                        for (Edge e : pairs) {
                            back.remove(to.remove(e));
                        }
                    }
                }
            }
            return false;
        }

        boolean put(Link l, Link m, boolean turned, List<Edge> pairs) {
            List<Edge> mine = new ArrayList<>(l.above);
            mine.addAll(l.below);
            List<Edge> theirs = new ArrayList<>(m.above);
            theirs.addAll(m.below);
            if (turned) {
                Collections.reverse(theirs);
            }
            for (int i = 0; i < mine.size(); i++) {
                Edge e = mine.get(i);
                Edge f = theirs.get(i);
                if (to.containsKey(e) || back.containsKey(f)) {
                    if (to.get(e) != f) {
                        return false;
                    }
                } else {
                    if (e.formula != f.formula || a.names.indexOf(e) != b.names.indexOf(f)) {
                        return false;
                    }
                    to.put(e, f);
                    back.put(f, e);
                    pairs.add(e);
                }
            }
            return true;
        }
    }
}
