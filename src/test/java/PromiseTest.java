import java.util.function.IntSupplier;

/** For each promise of the document ordinary inputs, the edges that it names, and wrong inputs. */
public final class PromiseTest {
    private static final int NONE = -1;
    private static final int ARGUMENT = -1001;
    private static final int STATE = -1002;
    private static int wrong = 0;
    private static String promise = "";

    public static void main(String[] args) {
        newObject();
        atom();
        pair();
        dual();
        dualOrderAndRoom();
        formula();
        clear();
        axiom();
        axiomRoom();
        link();
        linkRoom();
        cut();
        conclude();
        look();
        typeAndConclusion();
        links();
        judge();
        judgeManyPars();
        fault();
        cuts();
        reduceByAxiom();
        reduceByAxiomOnTheRight();
        reduceIncomplete();
        reduceSplit();
        reduceRefused();
        normalise();
        normaliseBySplits();
        normalisePicks();
        normaliseRefused();
        keepAndSame();
        sameWithCuts();
        sameByNames();
        sameNeedsNets();
        rule();
        ruleOrder();
        ruleOfCuts();
        linkings();
        linkingsOfMany();
        partner();
        build();
        System.out.println(wrong == 0 ? "all promises hold" : wrong + " answers are not as due");
        if (wrong != 0) {
            System.exit(1);
        }
    }

    private static void due(String call, long got, long want) {
        if (got != want) {
            wrong++;
            System.out.println(promise + ": " + call + " answered " + got + ", due is " + want);
        }
    }

    private static void due(String call, boolean got, boolean want) {
        due(call, got ? 1 : 0, want ? 1 : 0);
    }

    private static int run(IntSupplier call) {
        try {
            return call.getAsInt();
        } catch (IllegalArgumentException e) {
            return ARGUMENT;
        } catch (IllegalStateException e) {
            return STATE;
        }
    }

    /** All 16 atoms, then tensors of atom 0 with the newest formula, until there are so many. */
    private static void fill(SwitchedNets x, int count) {
        for (int i = 0; i < 16 && i < count; i++) {
            x.atom(i / 2, i % 2 == 0);
        }
        for (int f = 16; f < count; f++) {
            x.pair(0, f - 1, true);
        }
    }

    /** Axioms of formula 0 until there are so many links; all is free. */
    private static void axioms(SwitchedNets x, int count) {
        for (int i = 0; i < count; i++) {
            x.axiom(0);
        }
    }

    /** A chain of cuts and axioms, reduced one by one: makes two links and two edges each time. */
    private static void wear(SwitchedNets x, int times) {
        int free = x.look(x.axiom(0), 2);
        for (int i = 0; i < times; i++) {
            int next = x.axiom(0);
            x.cut(free, x.look(next, 1));
            x.reduce(0);
            free = x.look(next, 2);
        }
    }

    private static void newObject() {
        promise = "promise 1";
        SwitchedNets x = new SwitchedNets();
        due("formula(0, 0)", x.formula(0, 0), NONE);
        due("links()", x.links(), 0);
        due("cuts()", x.cuts(), 0);
        due("type(0)", x.type(0), NONE);
        due("look(0, 0)", x.look(0, 0), NONE);
        due("conclusion(0)", x.conclusion(0), NONE);
        due("judge()", x.judge(), 3);
        due("fault()", x.fault(), NONE);
        due("linkings(0)", x.linkings(0), NONE);
        due("same()", x.same(), false);
        due("rule(0)", x.rule(0), NONE);
        due("normalise(0)", x.normalise(0), NONE);
        due("NONE", SwitchedNets.NONE, -1);
    }

    private static void atom() {
        promise = "promise 2";
        SwitchedNets x = new SwitchedNets();
        due("atom(7, false)", x.atom(7, false), 0);
        due("atom(7, true)", x.atom(7, true), 1);
        due("atom(7, false) again", x.atom(7, false), 0);
        due("atom(-1, true)", run(() -> x.atom(-1, true)), ARGUMENT);
        due("atom(8, true)", run(() -> x.atom(8, true)), ARGUMENT);
        due("atom(0, true)", x.atom(0, true), 2);
        for (int f = 3; f < 80; f++) {
            x.pair(0, f - 1, false);
        }
        due("formula(79, 0)", x.formula(79, 0), 2);
        due("atom(0, false) at 80", run(() -> x.atom(0, false)), STATE);
        due("atom(0, true) at 80", run(() -> x.atom(0, true)), 2);
        due("atom(8, true) at 80", run(() -> x.atom(8, true)), ARGUMENT);
        due("formula(80, 0)", x.formula(80, 0), NONE);
    }

    private static void pair() {
        promise = "promise 3";
        SwitchedNets x = new SwitchedNets();
        due("pair(0, 0) of nothing", run(() -> x.pair(0, 0, true)), ARGUMENT);
        x.atom(0, true);
        x.atom(1, true);
        due("pair(0, 1, true)", x.pair(0, 1, true), 2);
        due("pair(0, 1, false)", x.pair(0, 1, false), 3);
        due("pair(1, 0, true)", x.pair(1, 0, true), 4);
        due("pair(0, 0, true)", x.pair(0, 0, true), 5);
        due("pair(0, 1, true) again", x.pair(0, 1, true), 2);
        due("pair(6, 0)", run(() -> x.pair(6, 0, true)), ARGUMENT);
        due("pair(0, 6)", run(() -> x.pair(0, 6, true)), ARGUMENT);
        due("pair(-1, 0)", run(() -> x.pair(-1, 0, true)), ARGUMENT);
        due("pair(0, -1)", run(() -> x.pair(0, -1, true)), ARGUMENT);
        for (int f = 6; f < 80; f++) {
            due("pair", x.pair(f - 1, 0, false), f);
        }
        due("pair(79, 79) at 80", run(() -> x.pair(79, 79, true)), STATE);
        due("pair(80, 79) at 80", run(() -> x.pair(80, 79, true)), ARGUMENT);
        due("pair(0, 1, true) at 80", run(() -> x.pair(0, 1, true)), 2);
    }

    private static void dual() {
        promise = "promise 4";
        SwitchedNets x = new SwitchedNets();
        due("dual(0) of nothing", run(() -> x.dual(0)), ARGUMENT);
        due("dual(-1)", run(() -> x.dual(-1)), ARGUMENT);
        x.atom(3, false);
        due("dual of an atom", x.dual(0), 1);
        due("formula(1, 0)", x.formula(1, 0), 0);
        due("formula(1, 1)", x.formula(1, 1), 3);
        due("formula(1, 2)", x.formula(1, 2), 1);
        due("dual of the dual", x.dual(1), 0);
        x.pair(0, 1, true);
        due("dual of a tensor", x.dual(2), 3);
        due("formula(3, 0)", x.formula(3, 0), 2);
        due("formula(3, 1)", x.formula(3, 1), 1);
        due("formula(3, 2)", x.formula(3, 2), 0);
        due("dual of a par", x.dual(3), 2);
        x.pair(3, 2, false);
        due("dual of a par of both", x.dual(4), 5);
        due("formula(5, 0)", x.formula(5, 0), 1);
        due("formula(5, 1)", x.formula(5, 1), 2);
        due("formula(5, 2)", x.formula(5, 2), 3);
        due("pair that is a dual by chance", x.pair(1, 0, true), 6);
        due("pair that is its dual", x.pair(0, 1, false), 7);
        due("dual(6)", x.dual(6), 7);
        due("dual(7)", x.dual(7), 6);
    }

    private static void dualOrderAndRoom() {
        promise = "promise 4";
        SwitchedNets x = new SwitchedNets();
        x.atom(0, true);
        x.atom(1, true);
        x.pair(0, 1, true);
        x.pair(1, 2, false);
        due("dual(3)", x.dual(3), 7);
        due("first comes the left atom's", x.formula(4, 1), 1);
        due("then the left atom's in the right part", x.formula(5, 1), 0);
        due("then the right part's", x.formula(6, 0), 2);
        due("of 5", x.formula(6, 1), 5);
        due("and 4", x.formula(6, 2), 4);
        due("then the whole's", x.formula(7, 0), 1);
        due("of 4", x.formula(7, 1), 4);
        due("and 6", x.formula(7, 2), 6);

        SwitchedNets y = new SwitchedNets();
        y.atom(0, true);
        for (int f = 1; f < 40; f++) {
            y.pair(f - 1, f - 1, true);
        }
        due("a formula of 2^39 occurrences", y.dual(39), 79);
        due("its dual's left part", y.formula(79, 1), 78);
        due("dual at 80, known", run(() -> y.dual(12)), 52);
        due("its dual again", run(() -> y.dual(79)), 39);

        SwitchedNets z = new SwitchedNets();
        z.atom(0, true);
        for (int f = 1; f < 41; f++) {
            z.pair(f - 1, f - 1, true);
        }
        due("one too many", run(() -> z.dual(40)), STATE);
        due("nothing is changed", z.formula(41, 0), NONE);
        due("one of these is formula 0", run(() -> z.dual(39)), STATE);
        due("nothing is changed", z.formula(41, 0), NONE);
        due("all but the last two", z.dual(38), 79);
        due("one more is too many", run(() -> z.dual(39)), STATE);
        due("no such formula at 80", run(() -> z.dual(80)), ARGUMENT);

        SwitchedNets w = new SwitchedNets();
        w.atom(0, true);
        for (int f = 1; f < 80; f++) {
            w.pair(f - 1, 0, true);
        }
        due("an atom's dual at 80", run(() -> w.dual(0)), STATE);
        due("an axiom's dual at 80", run(() -> w.axiom(0)), STATE);
        due("links()", w.links(), 0);
    }

    private static void formula() {
        promise = "promise 5";
        SwitchedNets x = new SwitchedNets();
        x.atom(5, true);
        x.atom(2, false);
        x.pair(0, 1, true);
        x.pair(2, 0, false);
        int[][] want = {{0, 5, 1}, {0, 2, 0}, {1, 0, 1}, {2, 2, 0}};
        for (int f = 0; f < want.length; f++) {
            for (int what = 0; what < 3; what++) {
                due("formula(" + f + ", " + what + ")", x.formula(f, what), want[f][what]);
            }
            due("formula(" + f + ", 3)", x.formula(f, 3), NONE);
            due("formula(" + f + ", -1)", x.formula(f, -1), NONE);
        }
        due("formula(4, 0)", x.formula(4, 0), NONE);
        due("formula(-1, 0)", x.formula(-1, 0), NONE);
    }

    private static void clear() {
        promise = "promise 6";
        SwitchedNets x = new SwitchedNets();
        due("clear() of nothing", x.clear(), 0);
        x.atom(0, true);
        x.axiom(0);
        x.axiom(0);
        x.conclude(0);
        x.cut(1, 2);
        x.reduce(0);
        due("links that are gone don't count", x.clear(), 1);
        due("links()", x.links(), 0);
        due("cuts()", x.cuts(), 0);
        due("type(2)", x.type(2), NONE);
        due("look(1, 0)", x.look(1, 0), NONE);
        due("conclusion(0)", x.conclusion(0), NONE);
        due("judge()", x.judge(), 3);
        due("formulas stay", x.formula(0, 0), 0);
        due("links begin at 0", x.axiom(0), 0);
        due("edges begin at 0", x.look(0, 1), 0);
        due("conclusions begin at 0", x.conclude(1), 0);
        due("conclusion(0)", x.conclusion(0), 1);
    }

    private static void axiom() {
        promise = "promise 7";
        SwitchedNets x = new SwitchedNets();
        due("axiom(0) of nothing", run(() -> x.axiom(0)), ARGUMENT);
        x.atom(0, true);
        x.atom(1, true);
        x.pair(0, 1, true);
        due("axiom(-1)", run(() -> x.axiom(-1)), ARGUMENT);
        due("axiom(3)", run(() -> x.axiom(3)), ARGUMENT);
        due("axiom(2)", x.axiom(2), 0);
        due("first edge", x.type(0), 2);
        due("second edge", x.type(1), 5);
        due("the dual came", x.formula(5, 0), 2);
        due("after its parts' duals", x.formula(5, 1), 3);
        due("axiom(5)", x.axiom(5), 1);
        due("first edge", x.type(2), 5);
        due("second edge", x.type(3), 2);
        for (int i = 2; i < 24; i++) {
            due("axiom", x.axiom(0), i);
        }
        due("25th", run(() -> x.axiom(0)), STATE);
        due("no such formula goes first", run(() -> x.axiom(80)), ARGUMENT);
        due("links()", x.links(), 24);
        due("type(48)", x.type(48), NONE);
    }

    private static void axiomRoom() {
        promise = "promise 7";
        SwitchedNets x = new SwitchedNets();
        x.atom(0, true);
        x.axiom(0);
        x.clear();
        wear(x, 29);
        due("60th link in all", x.axiom(0), 59);
        due("61st link in all", run(() -> x.axiom(0)), STATE);
        due("links()", x.links(), 2);

        SwitchedNets y = new SwitchedNets();
        fill(y, 79);
        due("dual with room for some of it", run(() -> y.axiom(16)), 0);
        due("the dual of 16 is 79", y.type(1), 79);
        due("no room for the dual", run(() -> y.axiom(17)), STATE);
        due("room for a dual that is there", run(() -> y.axiom(79)), 1);
        due("links()", y.links(), 2);
    }

    private static void link() {
        promise = "promise 8";
        SwitchedNets x = new SwitchedNets();
        due("link(0, 1) of nothing", run(() -> x.link(0, 1, true)), ARGUMENT);
        x.atom(0, true);
        x.axiom(0);
        x.axiom(0);
        due("an edge with itself", run(() -> x.link(0, 0, true)), ARGUMENT);
        due("no left edge", run(() -> x.link(-1, 0, true)), ARGUMENT);
        due("no right edge", run(() -> x.link(0, 4, true)), ARGUMENT);
        due("nothing came", x.formula(2, 0), NONE);
        due("link(3, 0, true)", x.link(3, 0, true), 2);
        due("its left premise", x.look(2, 1), 3);
        due("its right premise", x.look(2, 2), 0);
        due("its edge", x.look(2, 3), 4);
        due("its edge's formula", x.type(4), 2);
        due("a tensor", x.formula(2, 0), 1);
        due("of the left one's", x.formula(2, 1), 1);
        due("and the right one's", x.formula(2, 2), 0);
        due("left edge is a premise", run(() -> x.link(0, 1, true)), ARGUMENT);
        due("right edge is a premise", run(() -> x.link(1, 3, true)), ARGUMENT);
        x.conclude(1);
        due("left edge is named", run(() -> x.link(1, 2, true)), ARGUMENT);
        due("right edge is named", run(() -> x.link(2, 1, true)), ARGUMENT);
        due("link(2, 4, false)", x.link(2, 4, false), 3);
        due("a par", x.formula(x.type(5), 0), 2);
        due("judge() of a free edge", x.judge(), 3);

        SwitchedNets y = new SwitchedNets();
        y.atom(0, true);
        y.axiom(0);
        y.axiom(0);
        y.cut(1, 2);
        y.reduce(0);
        due("left edge is gone", run(() -> y.link(0, 3, true)), ARGUMENT);
        due("right edge is gone", run(() -> y.link(3, 1, true)), ARGUMENT);
        due("both are there", run(() -> y.link(3, 2, true)), 3);
    }

    private static void linkRoom() {
        promise = "promise 8";
        SwitchedNets x = new SwitchedNets();
        x.atom(0, true);
        axioms(x, 11);
        for (int i = 0; i < 8; i++) {
            due("par", x.link(2 * i, 2 * i + 1, false), 11 + i);
        }
        due("9th par", run(() -> x.link(16, 17, false)), STATE);
        due("9th par of no edge", run(() -> x.link(16, 16, false)), ARGUMENT);
        due("a tensor instead", x.link(17, 16, true), 19);
        due("cut of a par and the tensor", x.cut(22, 30), 20);
        due("reduce(0)", x.reduce(0), true);
        due("a par has gone", run(() -> x.link(18, 19, false)), 23);
        due("again 8 pars", run(() -> x.link(20, 21, false)), STATE);
        due("links()", x.links(), 21);

        SwitchedNets y = new SwitchedNets();
        y.atom(0, true);
        axioms(y, 24);
        due("25th link", run(() -> y.link(0, 2, true)), STATE);
        due("no formula came", y.formula(2, 0), NONE);
        due("no such edge goes first", run(() -> y.link(0, 48, true)), ARGUMENT);

        SwitchedNets z = new SwitchedNets();
        fill(z, 80);
        z.axiom(0);
        z.axiom(0);
        z.axiom(15);
        due("no room for the formula", run(() -> z.link(0, 2, false)), STATE);
        due("links()", z.links(), 3);
        due("edge 0 is free yet", run(() -> z.link(0, 4, true)), 3);
        due("a formula that is there", z.type(6), 16);

        SwitchedNets w = new SwitchedNets();
        w.atom(0, true);
        wear(w, 29);
        due("60th link", w.axiom(0), 59);
        due("61st link", run(() -> w.link(58, 60, true)), STATE);
        due("a gone edge goes first", run(() -> w.link(1, 60, true)), ARGUMENT);
    }

    private static void cut() {
        promise = "promise 9";
        SwitchedNets x = new SwitchedNets();
        due("cut(0, 1) of nothing", run(() -> x.cut(0, 1)), ARGUMENT);
        x.atom(0, true);
        x.atom(1, true);
        axioms(x, 2);
        x.axiom(1);
        due("an edge with itself", run(() -> x.cut(0, 0)), ARGUMENT);
        due("the same formula", run(() -> x.cut(0, 2)), ARGUMENT);
        due("another letter", run(() -> x.cut(0, 5)), ARGUMENT);
        due("no left edge", run(() -> x.cut(-1, 0)), ARGUMENT);
        due("no right edge", run(() -> x.cut(0, 6)), ARGUMENT);
        due("cut(3, 0)", x.cut(3, 0), 3);
        due("kind", x.look(3, 0), 3);
        due("left premise", x.look(3, 1), 3);
        due("right premise", x.look(3, 2), 0);
        due("no edge", x.look(3, 3), NONE);
        due("no edge came", x.type(6), NONE);
        due("left edge is a premise", run(() -> x.cut(0, 1)), ARGUMENT);
        due("right edge is a premise", run(() -> x.cut(1, 0)), ARGUMENT);
        x.conclude(1);
        due("left edge is named", run(() -> x.cut(1, 2)), ARGUMENT);
        due("right edge is named", run(() -> x.cut(2, 1)), ARGUMENT);
        x.link(2, 4, true);
        due("a tensor without a dual", run(() -> x.cut(6, 5)), ARGUMENT);
        x.axiom(x.dual(x.type(6)));
        due("a tensor and its dual", run(() -> x.cut(7, 6)), 6);

        SwitchedNets y = new SwitchedNets();
        y.atom(0, true);
        axioms(y, 24);
        due("25th link", run(() -> y.cut(0, 3)), STATE);
        due("not duals goes first", run(() -> y.cut(0, 2)), ARGUMENT);
        due("cuts()", y.cuts(), 0);

        SwitchedNets z = new SwitchedNets();
        z.atom(0, true);
        wear(z, 29);
        z.axiom(0);
        due("61st link", run(() -> z.cut(59, 60)), STATE);
        due("gone edge goes first", run(() -> z.cut(1, 60)), ARGUMENT);
    }

    private static void conclude() {
        promise = "promise 10";
        SwitchedNets x = new SwitchedNets();
        due("conclude(0) of nothing", x.conclude(0), NONE);
        x.atom(0, true);
        axioms(x, 4);
        due("conclude(-1)", x.conclude(-1), NONE);
        due("conclude(8)", x.conclude(8), NONE);
        due("conclude(6)", x.conclude(6), 0);
        due("conclude(6) again", x.conclude(6), NONE);
        due("conclude(0)", x.conclude(0), 1);
        x.cut(1, 2);
        due("a premise", x.conclude(2), NONE);
        x.reduce(0);
        due("a gone edge", x.conclude(1), NONE);
        due("an edge that took a name", x.conclude(2), NONE);
        due("conclude(3)", x.conclude(3), 2);
        due("conclusion(0)", x.conclusion(0), 6);
        due("conclusion(1)", x.conclusion(1), 2);
        due("conclusion(2)", x.conclusion(2), 3);
    }

    private static void look() {
        promise = "promise 11";
        SwitchedNets x = new SwitchedNets();
        x.atom(0, true);
        axioms(x, 4);
        x.link(0, 2, true);
        x.link(1, 3, false);
        x.cut(5, 6);
        int[][] want = {{0, 0, 1, NONE}, {0, 2, 3, NONE}, {0, 4, 5, NONE}, {0, 6, 7, NONE},
            {1, 0, 2, 8}, {2, 1, 3, 9}, {3, 5, 6, NONE}};
        for (int link = 0; link < want.length; link++) {
            for (int what = 0; what < 4; what++) {
                due("look(" + link + ", " + what + ")", x.look(link, what), want[link][what]);
            }
            due("look(" + link + ", 4)", x.look(link, 4), NONE);
            due("look(" + link + ", -1)", x.look(link, -1), NONE);
        }
        due("look(7, 0)", x.look(7, 0), NONE);
        due("look(-1, 0)", x.look(-1, 0), NONE);
        x.reduce(0);
        for (int what = 0; what < 4; what++) {
            due("a gone axiom", x.look(2, what), NONE);
            due("a gone cut", x.look(6, what), NONE);
        }
        due("another axiom", x.look(3, 1), 6);
    }

    private static void typeAndConclusion() {
        promise = "promises 12 and 13";
        SwitchedNets x = new SwitchedNets();
        x.atom(0, true);
        axioms(x, 2);
        due("type(-1)", x.type(-1), NONE);
        due("type(0)", x.type(0), 0);
        due("type(3)", x.type(3), 1);
        due("type(4)", x.type(4), NONE);
        x.link(0, 2, false);
        due("type(4)", x.type(4), 2);
        due("conclusion(0)", x.conclusion(0), NONE);
        x.conclude(4);
        x.conclude(1);
        due("conclusion(-1)", x.conclusion(-1), NONE);
        due("conclusion(0)", x.conclusion(0), 4);
        due("conclusion(1)", x.conclusion(1), 1);
        due("conclusion(2)", x.conclusion(2), NONE);

        SwitchedNets y = new SwitchedNets();
        y.atom(0, true);
        axioms(y, 2);
        y.cut(3, 0);
        y.conclude(1);
        y.reduce(0);
        due("type of a gone premise", y.type(3), NONE);
        due("type of a gone axiom's other edge", y.type(2), NONE);
        due("type of the other premise", y.type(0), 0);
        due("conclusion(0) is untouched", y.conclusion(0), 1);
    }

    private static void links() {
        promise = "promise 14";
        SwitchedNets x = new SwitchedNets();
        x.atom(0, true);
        axioms(x, 3);
        due("axioms", x.links(), 3);
        x.link(0, 2, true);
        x.cut(3, 4);
        due("with a tensor and a cut", x.links(), 5);
        x.reduce(0);
        due("without those that are gone", x.links(), 3);
        run(() -> x.link(0, 0, true));
        due("a refused one doesn't count", x.links(), 3);
    }

    private static void judge() {
        promise = "promise 15";
        SwitchedNets x = new SwitchedNets();
        x.atom(0, true);
        x.axiom(0);
        due("two free edges", x.judge(), 3);
        x.conclude(1);
        due("one free edge", x.judge(), 3);
        x.conclude(0);
        due("an axiom", x.judge(), 0);
        x.axiom(0);
        x.conclude(2);
        x.conclude(3);
        due("two axioms apart", x.judge(), 2);

        x.clear();
        x.axiom(0);
        x.cut(0, 1);
        due("two edges between two links", x.judge(), 1);
        x.axiom(0);
        x.conclude(2);
        due("a cycle, but not complete", x.judge(), 3);
        x.conclude(3);
        due("a cycle, and not connected", x.judge(), 1);

        x.clear();
        axioms(x, 2);
        x.link(0, 2, false);
        x.conclude(1);
        x.conclude(3);
        x.conclude(4);
        due("a par of two pieces", x.judge(), 2);
        x.clear();
        axioms(x, 2);
        x.link(0, 2, true);
        x.link(1, 3, true);
        x.conclude(4);
        x.conclude(5);
        due("two tensors of two axioms", x.judge(), 1);
        x.clear();
        axioms(x, 2);
        x.link(0, 2, true);
        x.link(1, 3, false);
        x.link(4, 5, false);
        x.conclude(6);
        due("a tensor and a par of two axioms, in a par", x.judge(), 0);
    }

    /** Eight axioms in a chain of tensors, all that is free gathered by eight pars. */
    private static void judgeManyPars() {
        promise = "promise 15";
        SwitchedNets x = new SwitchedNets();
        x.atom(0, true);
        axioms(x, 8);
        for (int i = 0; i < 7; i++) {
            x.link(2 * i + 1, 2 * i + 2, true);
        }
        x.link(0, 15, false);
        for (int i = 0; i < 7; i++) {
            x.link(23 + i, 16 + i, false);
        }
        due("links()", x.links(), 23);
        x.conclude(30);
        due("eight pars", x.judge(), 0);
        due("fault()", x.fault(), NONE);
        due("rule(0)", x.rule(0), 22);
        due("rule(7)", x.rule(7), 15);
        due("rule(8)", x.rule(8), 8);
        due("rule(9)", x.rule(9), 0);
        due("rule(22)", x.rule(22), 7);
    }

    private static void fault() {
        promise = "promise 16";
        SwitchedNets x = new SwitchedNets();
        x.atom(0, true);
        axioms(x, 2);
        x.link(0, 2, false);
        x.link(4, 3, true);
        due("not complete", x.fault(), NONE);
        x.conclude(1);
        x.conclude(5);
        due("complete, and not judged yet", x.fault(), 1);
        due("judge(): a cycle by the right one alone", x.judge(), 1);
        due("fault()", x.fault(), 1);
        x.axiom(0);
        x.link(6, 7, false);
        x.conclude(8);
        due("with a later par", x.fault(), 1);

        x.clear();
        axioms(x, 3);
        x.link(4, 5, false);
        x.link(0, 2, false);
        x.link(7, 3, true);
        x.conclude(1);
        x.conclude(6);
        x.conclude(8);
        due("with an earlier par: judge()", x.judge(), 1);
        due("with an earlier par", x.fault(), 2);

        x.clear();
        axioms(x, 2);
        x.link(0, 2, false);
        x.link(1, 3, false);
        x.conclude(4);
        x.conclude(5);
        due("not connected: judge()", x.judge(), 2);
        due("not connected", x.fault(), 0);
        x.build(x.pair(0, 1, false), 0);
        due("a net, and not judged yet", x.fault(), NONE);
        due("a net: judge()", x.judge(), 0);
        due("a net", x.fault(), NONE);
        longCycle(x, 2);
        due("by all right ones: judge()", x.judge(), 1);
        due("by all right ones", x.fault(), 255);
        longCycle(x, 3);
        due("by none: judge()", x.judge(), 2);
        due("by none", x.fault(), 0);
    }

    /** Eight pars, the edge of each the right premise of the next, the last joined to an axiom. */
    private static void longCycle(SwitchedNets x, int joined) {
        x.clear();
        axioms(x, 10);
        int edge = 2;
        for (int i = 0; i < 8; i++) {
            edge = x.look(x.link(4 + 2 * i, edge, false), 3);
        }
        x.link(edge, joined == 2 ? 3 : 0, true);
        for (int e = 0; x.type(e) != NONE; e++) {
            x.conclude(e);
        }
    }

    private static void cuts() {
        promise = "promise 17";
        SwitchedNets x = new SwitchedNets();
        x.atom(0, true);
        axioms(x, 3);
        due("no cut", x.cuts(), 0);
        x.cut(1, 2);
        x.cut(3, 4);
        due("two cuts", x.cuts(), 2);
        x.reduce(1);
        due("one cut", x.cuts(), 1);
        run(() -> x.cut(0, 0));
        due("a refused one doesn't count", x.cuts(), 1);
    }

    private static void reduceByAxiom() {
        promise = "promise 18";
        SwitchedNets x = new SwitchedNets();
        x.atom(0, true);
        axioms(x, 3);
        x.link(0, 4, true);
        x.cut(1, 2);
        due("reduce(1)", x.reduce(1), false);
        due("reduce(-1)", x.reduce(-1), false);
        due("reduce(0)", x.reduce(0), true);
        due("the left premise's axiom is gone", x.look(0, 0), NONE);
        due("the right one's is not", x.look(1, 0), 0);
        due("the place as a left premise", x.look(3, 1), 2);
        due("the other premise of that", x.look(3, 2), 4);
        due("it is no longer free", x.conclude(2), NONE);
        due("reduce(0) without a cut", x.reduce(0), false);

        x.clear();
        axioms(x, 3);
        x.link(4, 0, false);
        x.cut(1, 2);
        x.reduce(0);
        due("the place as a right premise", x.look(3, 2), 2);
        due("the left premise of that", x.look(3, 1), 4);

        x.clear();
        axioms(x, 4);
        x.cut(1, 2);
        x.cut(3, 4);
        x.cut(5, 6);
        x.conclude(7);
        x.conclude(0);
        due("the middle one of three cuts", x.reduce(1), true);
        due("the place in another cut", x.look(4, 2), 4);
        due("that cut's left premise", x.look(4, 1), 1);
        due("the first cut", x.reduce(0), true);
        due("the place by its name", x.conclusion(1), 4);
        due("judge()", x.judge(), 0);
        due("the last cut", x.reduce(0), true);
        due("the place by its name", x.conclusion(1), 6);
        due("conclusion(0)", x.conclusion(0), 7);
        due("links()", x.links(), 1);
        due("judge()", x.judge(), 0);
    }

    private static void reduceByAxiomOnTheRight() {
        promise = "promise 18";
        SwitchedNets x = new SwitchedNets();
        x.atom(0, true);
        axioms(x, 2);
        x.link(0, 2, true);
        x.axiom(x.dual(x.type(4)));
        x.cut(4, 5);
        x.conclude(6);
        due("reduce(0)", x.reduce(0), true);
        due("the axiom is gone", x.look(3, 0), NONE);
        due("the tensor is not", x.look(2, 0), 1);
        due("its edge has the name", x.conclusion(0), 4);
        due("type(6)", x.type(6), NONE);
        due("type(5)", x.type(5), NONE);
        due("links()", x.links(), 3);
    }

    private static void reduceIncomplete() {
        promise = "promise 18";
        SwitchedNets x = new SwitchedNets();
        x.atom(0, true);
        axioms(x, 2);
        x.cut(1, 2);
        due("reduce(0)", x.reduce(0), true);
        due("the place as a free edge", x.conclude(2), 0);
        due("judge()", x.judge(), 3);
        x.conclude(3);
        due("judge()", x.judge(), 0);
        due("the next link", x.axiom(0), 3);
        due("the next edge", x.look(3, 1), 4);

        x.clear();
        x.axiom(0);
        x.cut(0, 1);
        due("both of the same axiom", x.reduce(0), false);
        x.clear();
        x.axiom(0);
        x.cut(1, 0);
        due("both of the same axiom, the other way", x.reduce(0), false);
        due("links()", x.links(), 2);
    }

    private static void reduceSplit() {
        promise = "promise 18";
        for (int way = 0; way < 2; way++) {
            SwitchedNets x = new SwitchedNets();
            x.atom(0, true);
            x.atom(1, true);
            x.axiom(0);
            x.axiom(1);
            x.link(0, 2, true);
            x.axiom(0);
            x.axiom(1);
            x.link(6, 8, false);
            int parFirst = way == 0 ? x.cut(9, 4) : x.cut(4, 9);
            due("the cut", parFirst, 6);
            due("reduce(0)", x.reduce(0), true);
            due("links()", x.links(), 6);
            due("cuts()", x.cuts(), 2);
            due("the tensor is gone", x.look(2, 0), NONE);
            due("the par is gone", x.look(5, 0), NONE);
            due("the cut is gone", x.look(6, 0), NONE);
            due("type(4)", x.type(4), NONE);
            due("type(9)", x.type(9), NONE);
            due("the first cut's left premise", x.look(7, 1), way == 0 ? 6 : 0);
            due("the first cut's right premise", x.look(7, 2), way == 0 ? 0 : 6);
            due("the second cut's left premise", x.look(8, 1), way == 0 ? 8 : 2);
            due("the second cut's right premise", x.look(8, 2), way == 0 ? 2 : 8);
            due("they are cuts", x.look(8, 0), 3);
        }
    }

    /** A net with an axiom's cut and a cut of a tensor and a par; made so many links in all. */
    private static SwitchedNets wornNet(int times) {
        SwitchedNets x = new SwitchedNets();
        x.atom(0, true);
        wear(x, times);
        int e = 2 * times;
        axioms(x, 4);
        int tensor = x.look(x.link(e + 3, e + 5, true), 3);
        int other = x.look(x.link(e + 7, e + 9, true), 3);
        int par = x.look(x.link(e + 6, e + 8, false), 3);
        int last = x.look(x.link(e, other, false), 3);
        x.cut(e + 1, e + 2);
        x.cut(tensor, par);
        x.conclude(e + 4);
        x.conclude(last);
        return x;
    }

    private static void reduceRefused() {
        promise = "promise 18";
        SwitchedNets x = wornNet(24);
        due("judge()", x.judge(), 0);
        due("59 links in all", x.look(58, 0), 3);
        due("a split makes 61", x.reduce(1), false);
        due("links()", x.links(), 11);
        due("cuts()", x.cuts(), 2);
        due("the cut is there", x.look(58, 0), 3);
        due("by an axiom none is made", x.reduce(0), true);
        due("links()", x.links(), 9);
        due("judge()", x.judge(), 0);
        due("a split makes 61", x.reduce(0), false);

        SwitchedNets y = wornNet(23);
        y.axiom(0);
        due("a split makes 60", y.reduce(1), true);
        due("the last one", y.look(59, 0), 3);
    }

    private static void normalise() {
        promise = "promise 19";
        for (int pick = 0; pick < 5; pick++) {
            SwitchedNets x = new SwitchedNets();
            x.atom(0, true);
            axioms(x, 4);
            x.conclude(0);
            x.cut(1, 2);
            x.cut(3, 4);
            x.cut(5, 6);
            due("not complete", x.normalise(pick), NONE);
            x.conclude(7);
            due("normalise(-1)", x.normalise(-1), NONE);
            due("links()", x.links(), 7);
            due("normalise(pick)", x.normalise(pick), 3);
            due("links()", x.links(), 1);
            due("judge()", x.judge(), 0);
            due("conclusion(0)", x.conclusion(0), 6);
            due("again", x.normalise(pick), 0);
            due("normalise(-1)", x.normalise(-1), NONE);
        }
        SwitchedNets y = new SwitchedNets();
        y.atom(0, true);
        y.axiom(0);
        y.cut(0, 1);
        due("a cycle", y.normalise(0), NONE);
        y.clear();
        due("nothing", y.normalise(0), NONE);
    }

    private static void normaliseBySplits() {
        promise = "promise 19";
        for (int pick = 0; pick < 3; pick++) {
            SwitchedNets x = wornNet(0);
            x.keep();
            due("normalise(pick)", x.normalise(pick), 4);
            due("cuts()", x.cuts(), 0);
            due("links()", x.links(), 4);
            due("judge()", x.judge(), 0);
            due("same() as before", x.same(), false);
            due("the names stay", x.type(x.conclusion(0)), 0);
        }
    }

    /** Two cuts that begin at the middle one of three axioms: it matters which one comes first. */
    private static void normalisePicks() {
        promise = "promise 19";
        int[] picks = {0, 1, 2, 3, Integer.MAX_VALUE};
        for (int pick : picks) {
            SwitchedNets x = new SwitchedNets();
            x.atom(0, true);
            axioms(x, 3);
            x.cut(2, 1);
            x.cut(3, 4);
            x.conclude(0);
            x.conclude(5);
            due("normalise(" + pick + ")", x.normalise(pick), 2);
            due("the axiom that is left", x.rule(0), pick % 2 == 0 ? 2 : 0);
            due("conclusion(0)", x.conclusion(0), pick % 2 == 0 ? 4 : 0);
            due("conclusion(1)", x.conclusion(1), pick % 2 == 0 ? 5 : 1);
        }
    }

    private static void normaliseRefused() {
        promise = "promise 19";
        SwitchedNets x = wornNet(24);
        x.keep();
        int links = x.links();
        due("normalise(0)", x.normalise(0), NONE);
        due("links()", x.links(), links);
        due("cuts()", x.cuts(), 2);
        due("same()", x.same(), true);
        due("the first cut", x.look(57, 0), 3);
        due("its left premise", x.look(57, 1), 49);
        due("its right premise", x.look(57, 2), 50);
        due("normalise(1)", x.normalise(1), NONE);
        due("cuts()", x.cuts(), 2);
        due("the last link in all", x.axiom(0), 59);

        SwitchedNets y = wornNet(23);
        due("with room", y.normalise(0), 4);
        due("judge()", y.judge(), 0);
    }

    /** The structure of a tensor and a par of two axioms: ways to draw it that change its numbers. */
    private static void draw(SwitchedNets x, boolean flipped, boolean parFirst) {
        x.clear();
        x.axiom(flipped ? 1 : 0);
        x.axiom(0);
        int a = flipped ? 1 : 0;
        int b = 2;
        int tensor = NONE;
        if (!parFirst) {
            tensor = x.look(x.link(a, b, true), 3);
        }
        int par = x.look(x.link(1 - a, 3, false), 3);
        if (parFirst) {
            tensor = x.look(x.link(a, b, true), 3);
        }
        x.conclude(tensor);
        x.conclude(par);
    }

    private static void keepAndSame() {
        promise = "promises 20 and 21";
        SwitchedNets x = new SwitchedNets();
        x.atom(0, true);
        x.dual(0);
        draw(x, false, false);
        due("nothing is remembered", x.same(), false);
        x.keep();
        due("the same", x.same(), true);
        draw(x, true, false);
        due("an axiom the other way", x.same(), true);
        draw(x, true, true);
        due("in another order", x.same(), true);
        x.keep();
        x.keep();
        draw(x, false, false);
        due("remembered twice", x.same(), true);

        x.clear();
        due("against nothing", x.same(), false);
        axioms(x, 2);
        x.link(0, 2, true);
        x.link(1, 3, false);
        x.conclude(5);
        x.conclude(4);
        due("conclusions the other way", x.same(), false);
        x.clear();
        axioms(x, 2);
        x.link(0, 2, true);
        x.link(3, 1, false);
        x.conclude(4);
        x.conclude(5);
        due("premises the other way", x.same(), false);
        x.keep();
        draw(x, false, false);
        due("what is remembered is replaced", x.same(), false);

        x.clear();
        x.axiom(0);
        x.conclude(0);
        x.conclude(1);
        x.keep();
        x.clear();
        x.axiom(1);
        x.conclude(1);
        x.conclude(0);
        due("one axiom the other way", x.same(), true);
        x.clear();
        x.axiom(1);
        x.conclude(0);
        x.conclude(1);
        due("one axiom, its names the other way", x.same(), false);
        x.clear();
        x.axiom(x.atom(1, true));
        x.conclude(0);
        x.conclude(1);
        due("another letter", x.same(), false);
    }

    /** A chain of three axioms, one of the cuts perhaps the other way round. */
    private static void drawChain(SwitchedNets x, boolean turned, boolean late) {
        x.clear();
        if (late) {
            axioms(x, 3);
            x.cut(3, 4);
            x.cut(1, 2);
        } else {
            axioms(x, 2);
            x.cut(1, 2);
            x.axiom(0);
            if (turned) {
                x.cut(4, 3);
            } else {
                x.cut(3, 4);
            }
        }
        x.conclude(0);
        x.conclude(5);
    }

    private static void sameWithCuts() {
        promise = "promise 21";
        SwitchedNets x = new SwitchedNets();
        x.atom(0, true);
        drawChain(x, false, false);
        x.keep();
        drawChain(x, false, true);
        due("cuts in another order", x.same(), true);
        drawChain(x, true, false);
        due("a cut the other way", x.same(), false);
        x.reduce(1);
        due("a cut less", x.same(), false);

        SwitchedNets y = wornNet(0);
        y.keep();
        y.normalise(0);
        due("without cuts", y.same(), false);
        y.keep();
        y.clear();
        // What is left of the worn net: two axioms, a tensor of their duals, a par.
        axioms(y, 2);
        y.link(1, 3, true);
        y.link(0, 4, false);
        y.conclude(2);
        y.conclude(5);
        due("drawn by hand", y.same(), true);
        y.clear();
        axioms(y, 2);
        y.link(3, 1, true);
        y.link(0, 4, false);
        y.conclude(2);
        y.conclude(5);
        due("drawn with its axioms crossed", y.same(), false);
    }

    /** Two axioms in a tensor: its edge is conclusion 0, and then one that is free comes first. */
    private static void sameByNames() {
        promise = "promise 21";
        SwitchedNets x = new SwitchedNets();
        x.atom(0, true);
        for (int first = 0; first < 2; first++) {
            x.clear();
            axioms(x, 2);
            x.link(1, 3, true);
            x.conclude(4);
            x.conclude(first == 0 ? 0 : 2);
            x.conclude(first == 0 ? 2 : 0);
            if (first == 0) {
                x.keep();
            }
            due("conclusions 1 and 2 of one formula", x.same(), first == 0);
        }
    }

    private static void sameNeedsNets() {
        promise = "promise 21";
        SwitchedNets x = new SwitchedNets();
        x.atom(0, true);
        x.keep();
        due("nothing and nothing", x.same(), false);
        x.axiom(0);
        x.keep();
        due("not complete", x.same(), false);
        x.conclude(0);
        x.conclude(1);
        due("a net against what is no net", x.same(), false);
        x.keep();
        due("now it is one", x.same(), true);
        x.axiom(0);
        x.conclude(2);
        x.conclude(3);
        x.keep();
        due("not connected", x.same(), false);
        x.clear();
        x.axiom(0);
        x.cut(0, 1);
        x.keep();
        due("with a cycle", x.same(), false);
    }

    private static void rule() {
        promise = "promise 22";
        SwitchedNets x = new SwitchedNets();
        due("nothing", x.rule(0), NONE);
        x.atom(0, true);
        x.axiom(0);
        x.conclude(0);
        due("not complete", x.rule(0), NONE);
        x.conclude(1);
        due("an axiom", x.rule(0), 0);
        due("rule(1)", x.rule(1), NONE);
        due("rule(-1)", x.rule(-1), NONE);
        x.axiom(0);
        x.conclude(2);
        x.conclude(3);
        due("no net", x.rule(0), NONE);
    }

    private static void dueRow(SwitchedNets x, int... want) {
        for (int i = 0; i < want.length; i++) {
            due("rule(" + i + ")", x.rule(i), want[i]);
        }
        due("rule(" + want.length + ")", x.rule(want.length), NONE);
    }

    private static void ruleOrder() {
        promise = "promise 22";
        SwitchedNets x = new SwitchedNets();
        x.atom(0, true);
        axioms(x, 3);
        x.link(1, 2, true);
        x.link(3, 4, true);
        for (int e : new int[] {0, 5, 6, 7}) {
            x.conclude(e);
        }
        dueRow(x, 3, 0, 4, 1, 2);

        x.clear();
        axioms(x, 3);
        x.link(4, 3, true);
        x.link(2, 1, true);
        for (int e : new int[] {0, 5, 6, 7}) {
            x.conclude(e);
        }
        dueRow(x, 3, 2, 4, 1, 0);

        x.clear();
        axioms(x, 3);
        x.link(0, 2, true);
        x.link(1, 3, false);
        x.link(7, 4, true);
        for (int e : new int[] {5, 6, 8}) {
            x.conclude(e);
        }
        dueRow(x, 5, 4, 3, 0, 1, 2);

        x.clear();
        axioms(x, 2);
        x.link(0, 2, true);
        x.link(1, 3, false);
        x.link(4, 5, false);
        x.conclude(6);
        dueRow(x, 4, 3, 2, 0, 1);

        x.clear();
        axioms(x, 3);
        x.link(0, 2, true);
        x.link(3, 4, true);
        x.link(5, 1, false);
        x.link(7, 6, false);
        x.conclude(8);
        x.conclude(9);
        dueRow(x, 5, 6, 3, 0, 4, 1, 2);
    }

    private static void ruleOfCuts() {
        promise = "promise 22";
        SwitchedNets x = new SwitchedNets();
        x.atom(0, true);
        axioms(x, 4);
        x.link(1, 2, true);
        x.cut(3, 4);
        x.link(5, 6, true);
        for (int e : new int[] {0, 7, 8, 9}) {
            x.conclude(e);
        }
        dueRow(x, 4, 0, 5, 1, 6, 2, 3);
        x.reduce(0);
        dueRow(x, 4, 0, 6, 2, 3);
    }

    private static void linkings() {
        promise = "promise 23";
        SwitchedNets x = new SwitchedNets();
        int a = x.atom(0, true);
        int n = x.atom(0, false);
        int b = x.atom(1, false);
        due("linkings(-1)", x.linkings(-1), NONE);
        due("linkings(3)", x.linkings(3), NONE);
        due("an atom", x.linkings(a), 0);
        due("a par n", x.linkings(x.pair(a, n, false)), 1);
        due("n par a", x.linkings(x.pair(n, a, false)), 1);
        due("a tensor n", x.linkings(x.pair(a, n, true)), 0);
        due("a par a", x.linkings(x.pair(a, a, false)), 0);
        due("a par b", x.linkings(x.pair(a, b, false)), 0);
        int odd = x.pair(x.pair(a, n, false), a, false);
        due("three occurrences", x.linkings(odd), 0);
        int all = x.pair(x.pair(a, n, false), x.pair(a, n, false), false);
        due("two pairs by pars alone", x.linkings(all), 0);
        int both = x.pair(x.pair(a, n, false), x.pair(a, n, false), true);
        due("two pairs by a tensor", x.linkings(both), 1);
        int mixed = x.pair(x.pair(a, n, true), x.pair(a, n, false), false);
        due("a tensor with a par", x.linkings(mixed), 1);
    }

    private static void linkingsOfMany() {
        promise = "promise 23";
        SwitchedNets x = new SwitchedNets();
        int a = x.atom(0, true);
        int n = x.atom(0, false);
        int four = x.pair(x.pair(a, a, true), x.pair(a, a, true), true);
        int others = x.pair(x.pair(n, n, false), x.pair(n, n, false), false);
        int whole = x.pair(four, others, false);
        due("all 24", x.linkings(whole), 24);
        int[] first = {4, 5, 6, 7, 0, 1, 2, 3};
        int[] second = {4, 5, 7, 6, 0, 1, 3, 2};
        int[] last = {7, 6, 5, 4, 3, 2, 1, 0};
        for (int k = 0; k < 8; k++) {
            due("partner in linking 0", x.partner(whole, 0, k), first[k]);
            due("partner in linking 1", x.partner(whole, 1, k), second[k]);
            due("partner in linking 23", x.partner(whole, 23, k), last[k]);
        }
        due("partner in linking 24", x.partner(whole, 24, 0), NONE);
        due("build of linking 23", x.build(whole, 23), 11);
        due("judge()", x.judge(), 0);
        due("build of linking 24", x.build(whole, 24), NONE);
        int nine = x.pair(whole, a, false);
        due("nine occurrences", x.linkings(nine), NONE);
        due("partner of nine", x.partner(nine, 0, 0), NONE);
        due("build of nine", x.build(nine, 0), NONE);
        int big = whole;
        for (int i = 0; i < 60; i++) {
            big = x.pair(big, big, i % 2 == 0);
        }
        due("2^63 occurrences", x.linkings(big), NONE);
        due("asked again", x.linkings(whole), 24);
    }

    private static void partner() {
        promise = "promise 24";
        SwitchedNets x = new SwitchedNets();
        int a = x.atom(0, true);
        int n = x.atom(0, false);
        int b = x.atom(1, true);
        int c = x.atom(1, false);
        due("no such formula", x.partner(4, 0, 0), NONE);
        due("no such formula", x.partner(-1, 0, 0), NONE);
        due("an atom", x.partner(a, 0, 0), NONE);
        int f = x.pair(x.pair(x.pair(a, b, true), n, false), c, false);
        due("linkings(f)", x.linkings(f), 1);
        int[] want = {2, 3, 0, 1};
        for (int k = 0; k < 4; k++) {
            due("partner(f, 0, k)", x.partner(f, 0, k), want[k]);
        }
        due("partner(f, 0, 4)", x.partner(f, 0, 4), NONE);
        due("partner(f, 0, -1)", x.partner(f, 0, -1), NONE);
        due("partner(f, 1, 0)", x.partner(f, 1, 0), NONE);
        due("partner(f, -1, 0)", x.partner(f, -1, 0), NONE);
        int g = x.pair(a, n, false);
        due("of another formula", x.partner(g, 0, 1), 0);
        due("and of the first again", x.partner(f, 0, 3), 1);
        due("an occurrence of another one", x.partner(g, 0, 2), NONE);
        due("the structure is not touched", x.links(), 0);
    }

    private static void build() {
        promise = "promise 25";
        SwitchedNets x = new SwitchedNets();
        int a = x.atom(0, true);
        int n = x.atom(0, false);
        int tensor = x.pair(a, a, true);
        int par = x.pair(n, n, false);
        int f = x.pair(par, tensor, false);
        x.axiom(a);
        x.axiom(a);
        x.conclude(0);
        due("build of no formula", x.build(5, 0), NONE);
        due("build of no linking", x.build(f, 2), NONE);
        due("build(f, -1)", x.build(f, -1), NONE);
        due("nothing is changed", x.links(), 2);
        due("build(f, 1)", x.build(f, 1), 5);
        int[][] want = {{0, 0, 1, NONE}, {0, 2, 3, NONE}, {2, 0, 2, 4}, {1, 3, 1, 5}, {2, 4, 5, 6}};
        for (int link = 0; link < 5; link++) {
            for (int what = 0; what < 4; what++) {
                due("look(" + link + ", " + what + ")", x.look(link, what), want[link][what]);
            }
        }
        int[] types = {n, a, n, a, par, tensor, f, NONE};
        for (int e = 0; e < types.length; e++) {
            due("type(" + e + ")", x.type(e), types[e]);
        }
        due("conclusion(0)", x.conclusion(0), 6);
        due("conclusion(1)", x.conclusion(1), NONE);
        due("judge()", x.judge(), 0);
        due("links()", x.links(), 5);
        due("build(f, 0)", x.build(f, 0), 5);
        due("the tensor's left premise", x.look(3, 1), 1);
        due("no formula came", x.formula(5, 0), NONE);
        due("the next link", x.axiom(a), 5);
        due("the next edge", x.look(5, 1), 7);
        int twice = x.pair(f, f, true);
        due("parts that are equal are linked twice", x.build(twice, 0), 11);
        due("the last one", x.look(10, 0), 1);
        due("its left premise", x.look(10, 1), x.look(6, 3));
        due("its right premise", x.look(10, 2), x.look(9, 3));
    }
}
