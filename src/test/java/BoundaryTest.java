import java.io.IOException;
import java.nio.file.Files;
import java.nio.file.Path;
import java.util.ArrayList;
import java.util.LinkedHashMap;
import java.util.LinkedHashSet;
import java.util.List;
import java.util.Map;
import java.util.Set;
import java.util.function.BiConsumer;
import java.util.function.IntSupplier;
import java.util.function.Supplier;
import java.util.function.ToIntFunction;
import java.util.regex.Matcher;
import java.util.regex.Pattern;

/**
 * Each sentence of the document that names a boundary has a test of its own here: the last case
 * that is still allowed, the first one that is not, and that a refused call changes nothing. A test
 * begins with its sentence's words, which must stand under that heading of the document; and each
 * refusal that the document words there must be the beginning of some test.
 */
public final class BoundaryTest {
    private static final int NONE = -1;
    private static final int NO = 0;
    private static final int YES = 1;
    private static final int ARGUMENT = -1001;
    private static final int STATE = -1002;
    private static final int ANOTHER_EXCEPTION = -1003;
    private static final int LEAST = Integer.MIN_VALUE;
    private static final int GREATEST = Integer.MAX_VALUE;

    private static final Map<String, String> DOCUMENT = new LinkedHashMap<>();
    private static final Map<String, Set<String>> TESTED = new LinkedHashMap<>();
    private static String sentence = "";
    private static int wrong = 0;

    public static void main(String[] args) throws IOException {
        readDocument();
        terms();
        formulaPromises();
        drawingPromises();
        lookingPromises();
        judgingPromises();
        cuttingPromises();
        readingPromises();
        linkingPromises();
        everyRefusal();
        nothingIsLeftOut();
        System.out.println(wrong == 0 ? "all boundaries hold" : wrong + " faults at boundaries");
        if (wrong != 0) {
            System.exit(1);
        }
    }

    // The document's sentences.

    private static void readDocument() throws IOException {
        String text = Files.readString(Path.of("../shared/DOC.md"));
        for (String section : text.split("\n## ")) {
            int end = section.indexOf('\n');
            DOCUMENT.put(section.substring(0, end).trim(), plain(section.substring(end)));
        }
    }

    private static String plain(String text) {
        return text.replaceAll("\\s+", " ");
    }

    private static void begin(String heading, String words) {
        sentence = heading + ", \"" + words + "\"";
        if (!DOCUMENT.getOrDefault(heading, "").contains(plain(words))) {
            fault("the document has no such words there");
        }
        TESTED.computeIfAbsent(heading, h -> new LinkedHashSet<>()).add(plain(words));
    }

    private static void nothingIsLeftOut() {
        Pattern refusal = Pattern.compile("(Illegal\\w+: |NONE when |NONE otherwise|false when )[^;.]*");
        for (Map.Entry<String, String> section : DOCUMENT.entrySet()) {
            if (section.getKey().startsWith("Promise ")) {
                Set<String> tested = TESTED.getOrDefault(section.getKey(), Set.of());
                sentence = section.getKey();
                if (tested.isEmpty()) {
                    fault("has no test");
                }
                Matcher m = refusal.matcher(section.getValue());
                while (m.find()) {
                    if (!tested.contains(m.group().trim())) {
                        fault("has no test of \"" + m.group().trim() + "\"");
                    }
                }
            }
        }
    }

    // What a test says.

    private static void fault(String text) {
        wrong++;
        System.out.println(sentence + ": " + text);
    }

    private static void due(String call, int got, int want) {
        if (got != want) {
            fault(call + " answered " + word(got) + ", due is " + word(want));
        }
    }

    private static String word(int answer) {
        switch (answer) {
            case ARGUMENT:
                return "IllegalArgumentException";
            case STATE:
                return "IllegalStateException";
            case ANOTHER_EXCEPTION:
                return "another exception";
            default:
                return Integer.toString(answer);
        }
    }

    /** The call answers so in that state, and nothing can be told from a state without the call. */
    private static void refused(Supplier<Bench> state, String call, ToIntFunction<Bench> asked, int want) {
        due(call, asked.applyAsInt(state.get()), want);
        changesNothing(portrait(state, x -> 0), state, call, asked);
    }

    private static void changesNothing(List<List<Integer>> before, Supplier<Bench> state, String call,
            ToIntFunction<Bench> asked) {
        List<List<Integer>> after = portrait(state, asked);
        for (int view = 0; view < before.size(); view++) {
            if (!before.get(view).equals(after.get(view))) {
                fault(call + " changes something, as view " + view + " tells");
            }
        }
    }

    /** All that calls can tell of a state; each view has an object of its own, for 512 calls. */
    private static List<List<Integer>> portrait(Supplier<Bench> state, ToIntFunction<Bench> asked) {
        List<BiConsumer<Bench, List<Integer>>> views = List.of(
                BoundaryTest::seeFormulas, BoundaryTest::seeLinks, BoundaryTest::seeEdges,
                BoundaryTest::drawOn, BoundaryTest::nameOn, BoundaryTest::reduceOn,
                BoundaryTest::normaliseOn, BoundaryTest::askOn);
        List<List<Integer>> all = new ArrayList<>();
        for (BiConsumer<Bench, List<Integer>> view : views) {
            Bench x = state.get();
            asked.applyAsInt(x);
            List<Integer> seen = new ArrayList<>();
            view.accept(x, seen);
            all.add(seen);
        }
        return all;
    }

    private static void seeFormulas(Bench x, List<Integer> seen) {
        for (int f = 0; f <= 80; f++) {
            for (int what = 0; what < 3; what++) {
                seen.add(x.formula(f, what));
            }
        }
    }

    private static void seeLinks(Bench x, List<Integer> seen) {
        seen.add(x.links());
        seen.add(x.cuts());
        for (int link = 0; link <= 60; link++) {
            for (int what = 0; what < 4; what++) {
                seen.add(x.look(link, what));
            }
        }
    }

    private static void seeEdges(Bench x, List<Integer> seen) {
        seen.add(x.judge());
        seen.add(x.fault());
        seen.add(x.same());
        for (int e = 0; e <= 100; e++) {
            seen.add(x.type(e));
        }
        for (int i = 0; i <= 48; i++) {
            seen.add(x.conclusion(i));
        }
        for (int i = 0; i <= 24; i++) {
            seen.add(x.rule(i));
        }
    }

    /** Which edges are free, and what room there is, shows as soon as something is drawn. */
    private static void drawOn(Bench x, List<Integer> seen) {
        for (int e = 0; e < 100; e++) {
            seen.add(x.link(e, e + 1, false));
        }
        for (int i = 0; i < 60; i++) {
            int axiom = x.axiom(0);
            seen.add(axiom);
            seen.add(x.look(axiom, 1));
        }
    }

    private static void nameOn(Bench x, List<Integer> seen) {
        for (int e = 0; e < 100; e++) {
            seen.add(x.conclude(e));
        }
        seen.add(x.judge());
        seen.add(x.fault());
        for (int i = 0; i <= 24; i++) {
            seen.add(x.rule(i));
        }
    }

    private static void reduceOn(Bench x, List<Integer> seen) {
        for (int i = 0; i < 24; i++) {
            seen.add(x.reduce(i % 2));
            seen.add(x.links());
            seen.add(x.conclusion(i));
        }
        seen.add(x.axiom(0));
        seen.add(x.clear());
        seen.add(x.axiom(0));
    }

    private static void normaliseOn(Bench x, List<Integer> seen) {
        seen.add(x.normalise(1));
        seeLinks(x, seen);
    }

    private static void askOn(Bench x, List<Integer> seen) {
        for (int f = 0; f < 80; f++) {
            seen.add(x.linkings(f));
            seen.add(x.partner(f, 0, 1));
        }
        for (int f = 79; f >= 0; f--) {
            seen.add(x.dual(f));
        }
    }

    /** The class with every answer as a number; tells when an object is asked too often. */
    private static final class Bench {
        private final SwitchedNets x = new SwitchedNets();
        private int calls = 0;

        private int ask(IntSupplier call) {
            calls++;
            if (calls == 513) {
                BoundaryTest.fault("the test itself makes more than 512 calls on an object");
            }
            try {
                return call.getAsInt();
            } catch (RuntimeException e) {
                return e.getClass() == IllegalArgumentException.class ? ARGUMENT
                        : e.getClass() == IllegalStateException.class ? STATE : ANOTHER_EXCEPTION;
            }
        }

        int atom(int letter, boolean plain) {
            return ask(() -> x.atom(letter, plain));
        }

        int pair(int left, int right, boolean tensor) {
            return ask(() -> x.pair(left, right, tensor));
        }

        int dual(int f) {
            return ask(() -> x.dual(f));
        }

        int formula(int f, int what) {
            return ask(() -> x.formula(f, what));
        }

        int clear() {
            return ask(x::clear);
        }

        int axiom(int f) {
            return ask(() -> x.axiom(f));
        }

        int link(int left, int right, boolean tensor) {
            return ask(() -> x.link(left, right, tensor));
        }

        int cut(int left, int right) {
            return ask(() -> x.cut(left, right));
        }

        int conclude(int edge) {
            return ask(() -> x.conclude(edge));
        }

        int look(int link, int what) {
            return ask(() -> x.look(link, what));
        }

        int type(int edge) {
            return ask(() -> x.type(edge));
        }

        int conclusion(int i) {
            return ask(() -> x.conclusion(i));
        }

        int links() {
            return ask(x::links);
        }

        int judge() {
            return ask(x::judge);
        }

        int fault() {
            return ask(x::fault);
        }

        int cuts() {
            return ask(x::cuts);
        }

        int reduce(int c) {
            return ask(() -> x.reduce(c) ? YES : NO);
        }

        int normalise(int pick) {
            return ask(() -> x.normalise(pick));
        }

        int keep() {
            return ask(() -> {
                x.keep();
                return 0;
            });
        }

        int same() {
            return ask(() -> x.same() ? YES : NO);
        }

        int rule(int i) {
            return ask(() -> x.rule(i));
        }

        int linkings(int f) {
            return ask(() -> x.linkings(f));
        }

        int partner(int f, int i, int k) {
            return ask(() -> x.partner(f, i, k));
        }

        int build(int f, int i) {
            return ask(() -> x.build(f, i));
        }
    }

    // States.

    /** Formula 0 is a plain atom; there is no link. */
    private static Bench letter() {
        Bench x = new Bench();
        x.atom(0, true);
        return x;
    }

    /** So many formulas, two or more: an atom, its dual, then each the tensor of 0 and the last. */
    private static Bench formulas(int count) {
        Bench x = letter();
        x.atom(0, false);
        for (int f = 2; f < count; f++) {
            x.pair(0, f - 1, true);
        }
        return x;
    }

    private static Bench withAxioms(Bench x, int count) {
        for (int i = 0; i < count; i++) {
            x.axiom(0);
        }
        return x;
    }

    /** So many axioms; axiom j has the edges 2j and 2j + 1, of formulas 0 and 1. */
    private static Bench axioms(int count) {
        return withAxioms(letter(), count);
    }

    /** So many links in all, an odd number; an axiom is left, its edges are made - 1 and made. */
    private static Bench worn(int made) {
        Bench x = axioms(1);
        for (int links = 1; links < made; links += 2) {
            x.axiom(0);
            x.cut(links, links + 1);
            x.reduce(0);
        }
        return x;
    }

    /** A cut of a tensor and a par, no net, made + 4 links in all. Made is odd. */
    private static Bench wornSplit(int made) {
        Bench x = withAxioms(worn(made), 1);
        x.link(made - 1, made + 1, true);
        x.link(made, made + 2, false);
        x.cut(made + 3, made + 4);
        return x;
    }

    /**
     * A net with an axiom's cut, and one that will split: made + 10 links in all, or made + 11 with
     * its two conclusions in a par. Made is odd.
     */
    private static Bench wornNet(int made, boolean oneConclusion) {
        Bench x = withAxioms(worn(made), 4);
        int e = made - 1;
        x.link(e + 3, e + 5, true);
        x.link(e + 7, e + 9, true);
        x.link(e + 6, e + 8, false);
        x.link(e, e + 11, false);
        x.cut(e + 1, e + 2);
        x.cut(e + 10, e + 12);
        if (oneConclusion) {
            x.link(e + 4, e + 13, false);
            x.conclude(e + 14);
        } else {
            x.conclude(e + 4);
            x.conclude(e + 13);
        }
        x.keep();
        return x;
    }

    /** So many axioms and a cut between each and the next: a net of two conclusions. */
    private static Bench chain(int count) {
        Bench x = axioms(count);
        for (int i = 0; i + 1 < count; i++) {
            x.cut(2 * i + 1, 2 * i + 2);
        }
        x.conclude(0);
        x.conclude(2 * count - 1);
        return x;
    }

    /** Twelve axioms, eleven tensors and a par: a net of 24 links. */
    private static Bench greatNet() {
        Bench x = axioms(12);
        for (int i = 0; i < 11; i++) {
            x.link(2 * i + 1, 2 * i + 2, true);
        }
        x.link(0, 23, false);
        for (int e = 24; e <= 35; e++) {
            x.conclude(e);
        }
        return x;
    }

    /** So many pars, each of both edges of an axiom; the three axioms behind those are free. */
    private static Bench pars(int count) {
        Bench x = axioms(count + 3);
        for (int i = 0; i < count; i++) {
            x.link(2 * i, 2 * i + 1, false);
        }
        return x;
    }

    /**
     * Eight pars, the edge of each the right premise of the next one, begun at an edge of axiom 1;
     * the last one in a tensor with another edge.
     */
    private static Bench parRow(int other) {
        Bench x = axioms(10);
        int edge = 2;
        for (int i = 0; i < 8; i++) {
            x.link(4 + 2 * i, edge, false);
            edge = 20 + i;
        }
        x.link(edge, other, true);
        for (int e = 0; e <= 28; e++) {
            x.conclude(e);
        }
        return x;
    }

    /** 0 and 1 are an atom and its dual, 6 is a formula with all 24 linkings of 8 occurrences. */
    private static Bench manyLinkings() {
        Bench x = formulas(2);
        x.pair(0, 0, true);
        x.pair(2, 2, true);
        x.pair(1, 1, false);
        x.pair(4, 4, false);
        x.pair(3, 5, false);
        return x;
    }

    /** So many formulas, each the tensor of the last one with itself; the duals are as many again. */
    private static Bench doublings(int count) {
        Bench x = letter();
        for (int f = 1; f < count; f++) {
            x.pair(f - 1, f - 1, true);
        }
        return x;
    }

    // Terms.

    private static void terms() {
        formulasAtMost80();
        formulasEqual();
        lettersTo7();
        linksInAll();
        edgesInAll();
        linksAtATime();
        linksAtATimeGoAway();
        parsAtATime();
        oneUseOfAnEdge();
        complete();
        switchingNumbers();
        switchingsWithoutGonePars();
        twoEdgesAreACycle();
        leftOneFirst();
        sameAxiom();
        placesTaken();
        splitIntoTwo();
        goneEdges();
        proofOfOneAxiom();
        occurrencesAtMost8();
        occurrencesInARow();
        firstNamedException();
    }

    private static void formulasAtMost80() {
        begin("Terms", "FORMULAS are numbered from 0 as they come, at most 80");
        due("the first", letter().atom(0, true), 0);
        due("the 80th, an atom", formulas(79).atom(1, true), 79);
        due("the 80th, a tensor", formulas(79).pair(1, 0, true), 79);
        due("the 80th, a par", formulas(79).pair(0, 1, false), 79);
        due("the 80th, a dual", formulas(79).dual(2), 79);
        Bench byAxiom = formulas(79);
        due("axiom(2)", byAxiom.axiom(2), 0);
        due("the 80th, an axiom's dual", byAxiom.type(1), 79);
        Bench byLink = withAxioms(formulas(79), 2);
        due("link(0, 2, true)", byLink.link(0, 2, true), 2);
        due("the 80th, a link's", byLink.type(4), 79);
        due("formula(79, 0)", byLink.formula(79, 0), 1);
        due("formula(80, 0)", byLink.formula(80, 0), NONE);

        Supplier<Bench> full = () -> withAxioms(formulas(80), 2);
        refused(full, "the 81st, an atom", x -> x.atom(1, true), STATE);
        refused(full, "the 81st, a tensor", x -> x.pair(1, 0, true), STATE);
        refused(full, "the 81st, a par", x -> x.pair(0, 1, false), STATE);
        refused(full, "the 81st, a dual", x -> x.dual(2), STATE);
        refused(full, "the 81st, an axiom's dual", x -> x.axiom(2), STATE);
        refused(full, "the 81st, a tensor link's", x -> x.link(0, 2, true), STATE);
        refused(full, "the 81st, a par link's", x -> x.link(0, 1, false), STATE);
    }

    private static void formulasEqual() {
        begin("Terms", "equal ones are one");
        for (int count : new int[] {3, 79, 80}) {
            Bench x = formulas(count);
            due("an atom again", x.atom(0, false), 1);
            due("a tensor again", x.pair(0, 1, true), 2);
            due("a dual again", x.dual(1), 0);
            due("axiom(1)", x.axiom(1), 0);
            due("its dual", x.type(1), 0);
            due("link(1, 0, true)", x.link(1, 0, true), 1);
            due("its formula", x.type(2), 2);
            due("none came", x.formula(count, 0), NONE);
        }
        Bench y = formulas(3);
        due("a par is no tensor", y.pair(0, 1, false), 3);
        due("left is not right", y.pair(1, 0, true), 4);
        due("plain is not the other", y.atom(1, true), 5);
        due("nor is this one", y.atom(1, false), 6);
    }

    private static void lettersTo7() {
        begin("Terms", "a letter 0 .. 7 that is plain or not");
        Bench x = new Bench();
        for (int letter = 0; letter <= 7; letter++) {
            due("a plain atom", x.atom(letter, true), 2 * letter);
            due("another one", x.atom(letter, false), 2 * letter + 1);
        }
        due("the last letter", x.formula(15, 1), 7);
        for (int letter : new int[] {-1, 8, LEAST, GREATEST}) {
            refused(BoundaryTest::letter, "atom(" + letter + ", true)", y -> y.atom(letter, true), ARGUMENT);
            refused(BoundaryTest::letter, "atom(" + letter + ", false)", y -> y.atom(letter, false), ARGUMENT);
        }
    }

    private static void linksInAll() {
        begin("Terms", "both numbered from 0 as they come, those that are gone, too: at most 60 links");
        Bench start = axioms(1);
        due("the first link", start.look(0, 0), 0);
        due("the first edge", start.look(0, 1), 0);
        Bench behind = worn(3);
        due("the next link behind those that are gone", behind.axiom(0), 3);
        due("the next edge behind those that are gone", behind.look(3, 1), 4);
        due("the 60th, an axiom", worn(59).axiom(0), 59);
        due("the 60th, a tensor", withAxioms(worn(57), 2).link(57, 58, true), 59);
        due("the 60th, a par", withAxioms(worn(57), 2).link(57, 58, false), 59);
        due("the 60th, a cut", withAxioms(worn(57), 2).cut(57, 58), 59);
        Bench split = withAxioms(wornSplit(53), 1);
        due("the 59th and 60th, by reduce", split.reduce(0), YES);
        due("the 60th", split.look(59, 0), 3);
        due("look(60, 0)", split.look(60, 0), NONE);

        Supplier<Bench> sixty = () -> withAxioms(worn(57), 3);
        refused(sixty, "the 61st, an axiom", x -> x.axiom(0), STATE);
        refused(sixty, "the 61st, a tensor", x -> x.link(57, 58, true), STATE);
        refused(sixty, "the 61st, a par", x -> x.link(57, 58, false), STATE);
        refused(sixty, "the 61st, a cut", x -> x.cut(57, 58), STATE);
        refused(() -> wornSplit(55), "the 61st, by reduce", x -> x.reduce(0), NO);
        refused(() -> withAxioms(wornSplit(55), 1), "the 62nd, by reduce", x -> x.reduce(0), NO);
    }

    /**
     * Links that are to go need cuts, which have no edges: of 60 links in all, 24 at a time, 18 and
     * more are cuts, so that 84 edges are the most that there can be, and no call comes to 100.
     */
    private static void edgesInAll() {
        begin("Terms", "100 edges in all");
        Bench x = withAxioms(worn(37), 22);
        due("the 60th link", x.axiom(0), 59);
        due("its second edge", x.look(59, 2), 83);
        due("type(83)", x.type(83), 1);
        due("type(84)", x.type(84), NONE);
        due("links()", x.links(), 24);
        Bench y = axioms(24);
        due("48 edges at a time", y.type(47), 1);
        due("no more", y.type(48), NONE);
    }

    private static void linksAtATime() {
        begin("Terms", "24 links and 8 par links at a time");
        due("the 24th, an axiom", axioms(23).axiom(0), 23);
        due("the 24th, a tensor", axioms(23).link(0, 2, true), 23);
        due("the 24th, a par", axioms(23).link(0, 2, false), 23);
        due("the 24th, a cut", axioms(23).cut(0, 3), 23);
        Supplier<Bench> full = () -> axioms(24);
        refused(full, "the 25th, an axiom", x -> x.axiom(0), STATE);
        refused(full, "the 25th, a tensor", x -> x.link(0, 2, true), STATE);
        refused(full, "the 25th, a par", x -> x.link(0, 2, false), STATE);
        refused(full, "the 25th, a cut", x -> x.cut(0, 3), STATE);
        Supplier<Bench> mixed = () -> {
            Bench x = axioms(21);
            x.link(0, 2, true);
            x.link(1, 3, false);
            x.cut(42, 43);
            return x;
        };
        due("of all kinds", mixed.get().links(), 24);
        refused(mixed, "the 25th, an axiom", x -> x.axiom(0), STATE);
        refused(mixed, "the 25th, a cut", x -> x.cut(4, 7), STATE);
        Bench y = mixed.get();
        due("a cut splits among 24", y.reduce(0), YES);
        due("the first new cut", y.look(24, 0), 3);
        due("the second new cut", y.look(25, 0), 3);
        due("23 are left", y.links(), 23);
        due("a 24th again", y.axiom(0), 26);
        due("a 25th", y.axiom(0), STATE);
    }

    private static void linksAtATimeGoAway() {
        begin("Terms", "24 links and 8 par links at a time");
        Bench x = axioms(23);
        x.cut(1, 2);
        due("a 25th", x.axiom(0), STATE);
        due("reduce(0)", x.reduce(0), YES);
        due("links()", x.links(), 22);
        due("a 23rd", x.axiom(0), 24);
        due("a 24th", x.cut(3, 4), 25);
        due("a 25th", x.cut(5, 6), STATE);
        due("clear()", x.clear(), 24);
        withAxioms(x, 23);
        due("a 24th", x.axiom(0), 23);
        due("a 25th", x.axiom(0), STATE);
    }

    private static void parsAtATime() {
        begin("Terms", "24 links and 8 par links at a time");
        due("the 8th par", pars(7).link(14, 15, false), 17);
        refused(() -> pars(8), "a 9th par", x -> x.link(16, 17, false), STATE);
        Bench y = pars(8);
        due("a tensor beside 8 pars", y.link(17, 16, true), 19);
        due("an axiom beside 8 pars", y.axiom(0), 20);
        due("a cut beside 8 pars", y.cut(22, 30), 21);
        due("a 9th par", y.link(18, 19, false), STATE);
        due("a par goes", y.reduce(0), YES);
        due("an 8th par again", y.link(18, 19, false), 24);
        due("a 9th par", y.link(20, 21, false), STATE);
        due("clear()", y.clear(), 22);
        y.axiom(0);
        due("a par after clear", y.link(0, 1, false), 1);
    }

    private static void oneUseOfAnEdge() {
        begin("Terms", "An edge is FREE when it is neither.");
        Supplier<Bench> state = () -> {
            Bench x = axioms(5);
            x.link(0, 2, true);
            x.link(4, 6, false);
            x.cut(8, 5);
            x.conclude(9);
            return x;
        };
        due("a free edge of an axiom", state.get().conclude(1), 1);
        due("a free edge of a tensor", state.get().conclude(10), 1);
        due("a free edge of a par", state.get().conclude(11), 1);
        for (int used : new int[] {0, 2, 4, 6, 8, 5, 9}) {
            refused(state, "conclude(" + used + ")", x -> x.conclude(used), NONE);
            refused(state, "link(" + used + ", 1, true)", x -> x.link(used, 1, true), ARGUMENT);
            refused(state, "link(1, " + used + ", false)", x -> x.link(1, used, false), ARGUMENT);
            int free = used % 2 == 0 ? 1 : 10;
            refused(state, "cut(" + used + ", " + free + ")", x -> x.cut(used, free), ARGUMENT);
            refused(state, "cut(" + free + ", " + used + ")", x -> x.cut(free, used), ARGUMENT);
        }
    }

    private static void complete() {
        begin("Terms", "A structure is COMPLETE when it has links and none of its edges is free.");
        due("no links", letter().judge(), 3);
        due("two free edges", axioms(1).judge(), 3);
        Bench x = axioms(1);
        x.conclude(0);
        due("the second edge is free", x.judge(), 3);
        x.conclude(1);
        due("none is free", x.judge(), 0);
        Bench y = axioms(1);
        y.conclude(1);
        due("the first edge is free", y.judge(), 3);
        Bench z = axioms(1);
        z.link(0, 1, false);
        due("a par's edge is free", z.judge(), 3);
        z.conclude(2);
        due("it is named", z.judge(), 0);
        Bench w = axioms(2);
        w.link(0, 2, true);
        w.conclude(1);
        w.conclude(3);
        due("a tensor's edge is free", w.judge(), 3);
        w.conclude(4);
        due("it is named", w.judge(), 0);
        w.clear();
        due("no links any more", w.judge(), 3);
        Bench closed = axioms(1);
        closed.cut(0, 1);
        due("no conclusion, none is free", closed.judge(), 1);
    }

    private static void switchingNumbers() {
        begin("Terms", "2^i is added when for the i-th par link (from 0, by link numbers) it is the right one");
        Bench none = axioms(1);
        none.cut(1, 0);
        due("no par: judge()", none.judge(), 1);
        due("no par: the only switching", none.fault(), 0);
        due("eight pars, all right: judge()", parRow(3).judge(), 1);
        due("eight pars, all right", parRow(3).fault(), 255);
        for (int i = 0; i < 8; i++) {
            due("the right one of par " + i, parRow(5 + 2 * i).fault(), 255 >> i + 1 << i + 1);
        }
    }

    /** A par with its number is reduced away: the later one, with a cycle, is then the first. */
    private static void switchingsWithoutGonePars() {
        begin("Terms", "for the i-th par link (from 0, by link numbers)");
        Bench x = axioms(6);
        x.link(5, 7, false);
        x.link(0, 2, true);
        x.cut(12, 13);
        x.link(8, 10, false);
        x.link(14, 11, true);
        for (int e : new int[] {1, 3, 4, 6, 9, 15}) {
            x.conclude(e);
        }
        due("judge()", x.judge(), 1);
        due("by the second par", x.fault(), 2);
        due("reduce(0)", x.reduce(0), YES);
        due("judge()", x.judge(), 1);
        due("by what is now the first par", x.fault(), 1);
    }

    private static void twoEdgesAreACycle() {
        begin("Terms", "connected, without a cycle (two edges between the same two links are one, too)");
        Bench cut = axioms(1);
        cut.cut(0, 1);
        due("a cut of one axiom", cut.judge(), 1);
        Bench tensor = axioms(1);
        tensor.link(0, 1, true);
        tensor.conclude(2);
        due("a tensor of one axiom", tensor.judge(), 1);
        Bench par = axioms(1);
        par.link(0, 1, false);
        par.conclude(2);
        due("a par of one axiom", par.judge(), 0);
        Bench two = axioms(2);
        two.cut(1, 2);
        two.conclude(0);
        two.conclude(3);
        due("a cut of two axioms", two.judge(), 0);
        Bench ring = axioms(2);
        ring.cut(1, 2);
        ring.cut(3, 0);
        due("two cuts of two axioms", ring.judge(), 1);
    }

    private static void leftOneFirst() {
        begin("Terms", "if one of its premises (the left one first) comes from an axiom");
        Bench both = axioms(2);
        both.cut(3, 0);
        due("both: reduce(0)", both.reduce(0), YES);
        due("the left one's axiom goes", both.look(1, 0), NONE);
        due("the right one's stays", both.look(0, 0), 0);
        Bench right = axioms(3);
        right.link(0, 2, true);
        right.axiom(2);
        right.cut(6, 8);
        due("the right one alone: reduce(0)", right.reduce(0), YES);
        due("its axiom goes", right.look(4, 0), NONE);
        due("the tensor stays", right.look(3, 0), 1);
        Bench left = axioms(3);
        left.link(0, 2, true);
        left.axiom(2);
        left.cut(8, 6);
        due("the left one alone: reduce(0)", left.reduce(0), YES);
        due("its axiom goes", left.look(4, 0), NONE);
        due("the tensor stays", left.look(3, 0), 1);
    }

    private static void sameAxiom() {
        begin("Terms", "If both its premises are of the same axiom it can't be reduced.");
        for (int left = 0; left < 2; left++) {
            int first = left;
            Supplier<Bench> state = () -> {
                Bench x = axioms(1);
                x.cut(first, 1 - first);
                return x;
            };
            refused(state, "the same axiom, from edge " + first, x -> x.reduce(0), NO);
        }
        Supplier<Bench> ring = () -> {
            Bench x = axioms(2);
            x.cut(1, 2);
            x.cut(3, 0);
            return x;
        };
        Bench x = ring.get();
        due("two axioms", x.reduce(0), YES);
        due("the place in the other cut", x.look(3, 2), 2);
        Supplier<Bench> after = () -> {
            Bench y = ring.get();
            y.reduce(0);
            return y;
        };
        refused(after, "one axiom is left", y -> y.reduce(0), NO);
        Supplier<Bench> beside = () -> {
            Bench y = axioms(3);
            y.cut(0, 1);
            y.cut(3, 4);
            return y;
        };
        refused(beside, "beside another cut", y -> y.reduce(0), NO);
        due("the other cut", beside.get().reduce(1), YES);
    }

    private static void placesTaken() {
        begin("Terms", "as premise of a link, or by its name, or as a free edge");
        Bench left = axioms(3);
        left.link(0, 4, true);
        left.cut(1, 2);
        left.reduce(0);
        due("as left premise", left.look(3, 1), 2);
        due("beside the right one", left.look(3, 2), 4);
        due("it is not free", left.conclude(2), NONE);
        Bench right = axioms(3);
        right.link(4, 0, false);
        right.cut(1, 2);
        right.reduce(0);
        due("as right premise", right.look(3, 2), 2);
        due("beside the left one", right.look(3, 1), 4);
        Bench cut = axioms(3);
        cut.cut(0, 5);
        cut.cut(1, 2);
        cut.reduce(1);
        due("as a cut's premise", cut.look(3, 1), 2);
        Bench name = axioms(2);
        name.conclude(3);
        name.conclude(0);
        name.cut(1, 2);
        name.reduce(0);
        due("by its name", name.conclusion(1), 2);
        due("the other name stays", name.conclusion(0), 3);
        due("it has no second name", name.conclude(2), NONE);
        due("no name came", name.conclusion(2), NONE);
        Bench second = axioms(2);
        second.conclude(1);
        second.cut(0, 3);
        second.reduce(0);
        due("the axiom's second edge's name", second.conclusion(0), 3);
        Bench free = axioms(2);
        free.cut(1, 2);
        free.reduce(0);
        due("as a free edge", free.conclude(2), 0);
    }

    private static void splitIntoTwo() {
        begin("Terms", "in each the cut's left premise's part is the left premise");
        for (int way = 0; way < 2; way++) {
            Bench x = axioms(4);
            x.link(0, 2, true);
            x.link(5, 7, false);
            x.cut(way == 0 ? 8 : 9, way == 0 ? 9 : 8);
            due("reduce(0)", x.reduce(0), YES);
            due("cuts()", x.cuts(), 2);
            due("the left ones, left", x.look(7, 1), way == 0 ? 0 : 5);
            due("the left ones, right", x.look(7, 2), way == 0 ? 5 : 0);
            due("the right ones, left", x.look(8, 1), way == 0 ? 2 : 7);
            due("the right ones, right", x.look(8, 2), way == 0 ? 7 : 2);
        }
    }

    private static void goneEdges() {
        begin("Terms", "Edges that went with a link are gone.");
        Supplier<Bench> byAxiom = () -> worn(3);
        Supplier<Bench> bySplit = () -> {
            Bench x = wornSplit(1);
            x.reduce(0);
            return x;
        };
        for (int e = 0; e < 2; e++) {
            int gone = e;
            due("type of an axiom's", byAxiom.get().type(gone), NONE);
            refused(byAxiom, "conclude of an axiom's", x -> x.conclude(gone), NONE);
            refused(byAxiom, "link of an axiom's", x -> x.link(gone, 3, true), ARGUMENT);
            refused(byAxiom, "cut of an axiom's", x -> x.cut(gone, 3 - gone), ARGUMENT);
        }
        for (int e = 4; e < 6; e++) {
            int gone = e;
            due("type of a tensor's or par's", bySplit.get().type(gone), NONE);
            refused(bySplit, "conclude of a tensor's or par's", x -> x.conclude(gone), NONE);
        }
        due("type of what stays", byAxiom.get().type(2), 0);
        due("type of a part", bySplit.get().type(3), 1);
    }

    private static void proofOfOneAxiom() {
        begin("Terms", "if it is one axiom, that");
        due("the least net", chain(1).rule(0), 0);
        due("has one rule", chain(1).rule(1), NONE);
        Bench x = worn(3);
        x.conclude(2);
        x.conclude(3);
        due("an axiom behind those that are gone", x.rule(0), 1);
    }

    /** Occurrences from one to ten: a par at the top of as many pairs as there can be. */
    private static void occurrencesAtMost8() {
        begin("Terms", "A LINKING of a formula with an even number of occurrences, at most 8");
        Bench x = formulas(2);
        int joined = x.pair(0, 1, false);
        int[] even = new int[11];
        even[2] = joined;
        for (int n = 4; n <= 10; n += 2) {
            even[n] = x.pair(even[n - 2], joined, true);
        }
        due("1", x.linkings(0), 0);
        due("2", x.linkings(even[2]), 1);
        due("3", x.linkings(x.pair(even[2], 0, false)), 0);
        due("4", x.linkings(even[4]), 1);
        due("5", x.linkings(x.pair(even[4], 0, false)), 0);
        due("6", x.linkings(even[6]), 1);
        due("7", x.linkings(x.pair(even[6], 0, false)), 0);
        due("8", x.linkings(even[8]), 1);
        due("9", x.linkings(x.pair(even[8], 0, false)), NONE);
        due("10", x.linkings(even[10]), NONE);
        due("11", x.linkings(x.pair(even[10], 0, false)), NONE);
    }

    /** Tensors and pars in turn, in a row to the left or to the right: seven parts within parts. */
    private static void occurrencesInARow() {
        begin("Terms", "THE OCCURRENCES of a formula are the places of atoms in it, from 0, from left to right.");
        Bench x = formulas(2);
        int toTheLeft = 0;
        int toTheRight = 0;
        for (int n = 1; n < 8; n++) {
            boolean tensor = n % 2 == 0;
            toTheLeft = x.pair(toTheLeft, n % 2, tensor);
            toTheRight = x.pair(n % 2, toTheRight, tensor);
        }
        due("to the left", x.linkings(toTheLeft), 1);
        due("to the right", x.linkings(toTheRight), 1);
        for (int k = 0; k < 8; k++) {
            due("partner of " + k + " to the left", x.partner(toTheLeft, 0, k), k ^ 1);
            due("partner of " + k + " to the right", x.partner(toTheRight, 0, k), k ^ 1);
        }
        due("built to the left", x.build(toTheLeft, 0), 11);
        due("judge()", x.judge(), 0);
        due("built to the right", x.build(toTheRight, 0), 11);
        due("judge()", x.judge(), 0);
        due("the innermost link comes first", x.look(4, 2), 7);
        due("9 to the left", x.linkings(x.pair(toTheLeft, 0, true)), NONE);
        due("9 to the right", x.linkings(x.pair(0, toTheRight, true)), NONE);
    }

    private static void firstNamedException() {
        begin("Terms", "Calls that name exceptions throw them as their comments say, the one named first "
                + "when several would do; a call that throws, or is refused, changes nothing.");
        Supplier<Bench> noFormulas = () -> withAxioms(formulas(80), 24);
        refused(noFormulas, "atom(8, true) at 80", x -> x.atom(8, true), ARGUMENT);
        refused(noFormulas, "pair(80, 0, true) at 80", x -> x.pair(80, 0, true), ARGUMENT);
        refused(noFormulas, "pair(0, 80, true) at 80", x -> x.pair(0, 80, true), ARGUMENT);
        refused(noFormulas, "dual(80) at 80", x -> x.dual(80), ARGUMENT);
        refused(noFormulas, "axiom(80) at 24", x -> x.axiom(80), ARGUMENT);
        refused(noFormulas, "link(0, 48, true) at 24", x -> x.link(0, 48, true), ARGUMENT);
        refused(noFormulas, "link(3, 3, false) at 24", x -> x.link(3, 3, false), ARGUMENT);
        refused(noFormulas, "cut(0, 2) at 24", x -> x.cut(0, 2), ARGUMENT);
        Supplier<Bench> noLinks = () -> withAxioms(worn(57), 3);
        refused(noLinks, "axiom(2) at 60", x -> x.axiom(2), ARGUMENT);
        refused(noLinks, "link(0, 57, true) at 60", x -> x.link(0, 57, true), ARGUMENT);
        refused(noLinks, "cut(57, 57) at 60", x -> x.cut(57, 57), ARGUMENT);
        refused(noLinks, "cut(57, 0) at 60", x -> x.cut(57, 0), ARGUMENT);
    }

    // Promises 1 to 5.

    private static void formulaPromises() {
        newObject();
        noSuchLetter();
        atomAt80();
        noSuchFormulas();
        pairAt80();
        dualOrder();
        dualOfNothing();
        dualAt80();
        dualAt80OfEachPart();
        formulaOrWhat();
    }

    private static void newObject() {
        begin("Promise 1: A new object", "No formulas, no links.");
        Bench x = new Bench();
        due("formula(0, 0)", x.formula(0, 0), NONE);
        due("links()", x.links(), 0);
        due("cuts()", x.cuts(), 0);
        due("look(0, 0)", x.look(0, 0), NONE);
        due("type(0)", x.type(0), NONE);
        due("conclusion(0)", x.conclusion(0), NONE);
        due("judge()", x.judge(), 3);
        due("fault()", x.fault(), NONE);
        due("same()", x.same(), NO);
        due("rule(0)", x.rule(0), NONE);
        due("linkings(0)", x.linkings(0), NONE);
        due("partner(0, 0, 0)", x.partner(0, 0, 0), NONE);
        due("clear()", x.clear(), 0);
        Supplier<Bench> fresh = Bench::new;
        refused(fresh, "pair(0, 0, true)", y -> y.pair(0, 0, true), ARGUMENT);
        refused(fresh, "dual(0)", y -> y.dual(0), ARGUMENT);
        refused(fresh, "axiom(0)", y -> y.axiom(0), ARGUMENT);
        refused(fresh, "link(0, 1, true)", y -> y.link(0, 1, true), ARGUMENT);
        refused(fresh, "cut(0, 1)", y -> y.cut(0, 1), ARGUMENT);
        refused(fresh, "conclude(0)", y -> y.conclude(0), NONE);
        refused(fresh, "reduce(0)", y -> y.reduce(0), NO);
        refused(fresh, "normalise(0)", y -> y.normalise(0), NONE);
        refused(fresh, "build(0, 0)", y -> y.build(0, 0), NONE);
    }

    private static void noSuchLetter() {
        begin("Promise 2: atom", "IllegalArgumentException: there is no such letter");
        due("letter 0", new Bench().atom(0, false), 0);
        due("letter 7", new Bench().atom(7, true), 0);
        for (int letter : new int[] {LEAST, -1, 8, GREATEST}) {
            refused(Bench::new, "letter " + letter, x -> x.atom(letter, true), ARGUMENT);
        }
    }

    private static void atomAt80() {
        begin("Promise 2: atom", "IllegalStateException: it is a new one, and there are 80");
        due("a new one at 79", formulas(79).atom(7, false), 79);
        refused(() -> formulas(80), "a new one at 80", x -> x.atom(7, false), STATE);
        due("plain, an old one at 80", formulas(80).atom(0, true), 0);
        due("not plain, an old one at 80", formulas(80).atom(0, false), 1);
        Bench x = formulas(79);
        due("the last one", x.atom(3, true), 79);
        due("and again", x.atom(3, true), 79);
        due("its dual", x.atom(3, false), STATE);
    }

    private static void noSuchFormulas() {
        begin("Promise 3: pair", "IllegalArgumentException: there are no such formulas");
        due("the last formula, left", formulas(5).pair(4, 0, true), 5);
        due("the last formula, right", formulas(5).pair(0, 4, false), 5);
        due("the first formula twice", formulas(5).pair(0, 0, true), 5);
        for (int f : new int[] {LEAST, -1, 5, 80, GREATEST}) {
            refused(() -> formulas(5), "left " + f, x -> x.pair(f, 0, true), ARGUMENT);
            refused(() -> formulas(5), "right " + f, x -> x.pair(0, f, false), ARGUMENT);
            refused(() -> formulas(5), "both " + f, x -> x.pair(f, f, true), ARGUMENT);
        }
        due("formula 79", formulas(80).pair(0, 79, true), STATE);
    }

    private static void pairAt80() {
        begin("Promise 3: pair", "IllegalStateException: it is a new one, and there are 80");
        due("a new one at 79", formulas(79).pair(78, 78, false), 79);
        refused(() -> formulas(80), "a new tensor at 80", x -> x.pair(79, 79, true), STATE);
        refused(() -> formulas(80), "a new par at 80", x -> x.pair(0, 78, false), STATE);
        due("an old one at 80", formulas(80).pair(0, 78, true), 79);
    }

    private static void dualOrder() {
        begin("Promise 4: dual", "with it come the duals of its parts, the left one first, each before what is made of it");
        Bench x = new Bench();
        x.atom(0, true);
        x.atom(1, false);
        x.pair(0, 1, false);
        x.pair(1, 0, true);
        x.pair(3, 2, true);
        due("dual(4)", x.dual(4), 9);
        int[][] want = {{0, 1, 1}, {0, 0, 0}, {2, 5, 6}, {1, 6, 5}, {2, 7, 8}};
        for (int f = 0; f < 5; f++) {
            for (int what = 0; what < 3; what++) {
                due("formula(" + (5 + f) + ", " + what + ")", x.formula(5 + f, what), want[f][what]);
            }
        }
        due("no more came", x.formula(10, 0), NONE);
        due("and back", x.dual(9), 4);
        due("an atom's dual is there", x.dual(0), 6);
    }

    private static void dualOfNothing() {
        begin("Promise 4: dual", "IllegalArgumentException: there is no such formula");
        due("the first one", formulas(5).dual(0), 1);
        due("the last one", formulas(3).dual(2), 3);
        for (int f : new int[] {LEAST, -1, 5, 80, GREATEST}) {
            refused(() -> formulas(5), "dual(" + f + ")", x -> x.dual(f), ARGUMENT);
        }
    }

    private static void dualAt80() {
        begin("Promise 4: dual", "IllegalStateException: there would be more than 80 then");
        due("40 and their duals", doublings(40).dual(39), 79);
        Supplier<Bench> oneTooMany = () -> {
            Bench x = doublings(40);
            x.atom(1, true);
            return x;
        };
        refused(oneTooMany, "41 and 40 duals", x -> x.dual(39), STATE);
        due("41 and 39 duals", oneTooMany.get().dual(38), 79);
        refused(() -> doublings(41), "41 and their duals", x -> x.dual(40), STATE);
        refused(() -> doublings(80), "at 80, the least one", x -> x.dual(0), STATE);
        refused(() -> doublings(80), "at 80, the greatest one", x -> x.dual(79), STATE);
        Bench some = doublings(41);
        due("some of the duals", some.dual(20), 61);
        due("all but one of the others would do", some.dual(40), STATE);
        due("all but these", some.dual(38), 79);
        due("at 80, one that is there", some.dual(38), 79);
        due("at 80, what it is of", some.dual(79), 38);
        due("at 80, one that is not", some.dual(39), STATE);
        Bench chance = formulas(79);
        chance.pair(1, 0, false);
        due("at 80, one that came as a pair", chance.dual(2), 79);
    }

    /** So many formulas: two letters, then each the tensor of the second letter and the last one. */
    private static Bench row(int count, boolean lastIsLeft) {
        Bench x = letter();
        x.atom(1, true);
        x.pair(lastIsLeft ? 0 : 1, lastIsLeft ? 1 : 0, true);
        for (int f = 3; f < count; f++) {
            x.pair(lastIsLeft ? f - 1 : 1, lastIsLeft ? 1 : f - 1, true);
        }
        return x;
    }

    private static void dualAt80OfEachPart() {
        begin("Promise 4: dual", "there would be more than 80 then");
        for (boolean lastIsLeft : new boolean[] {true, false}) {
            due("40 and their duals", row(40, lastIsLeft).dual(39), 79);
            Supplier<Bench> oneTooMany = () -> {
                Bench x = row(40, lastIsLeft);
                x.atom(2, true);
                return x;
            };
            refused(oneTooMany, "41 and 40 duals", x -> x.dual(39), STATE);
            due("41 and 39 duals", oneTooMany.get().dual(38), 79);
            refused(() -> row(41, lastIsLeft), "41 and their duals", x -> x.dual(40), STATE);
        }
        Bench x = letter();
        x.atom(1, true);
        for (int f = 2; f < 41; f++) {
            x.pair(f - 1, f - 1, true);
        }
        due("formula 41 has formula 0 as a part", x.pair(0, 39, true), 41);
        due("42 and 41 duals", x.dual(41), STATE);
        due("42 and 38 duals, not that of formula 0", x.dual(38), 79);
        due("the duals of all its parts came", x.dual(1), 42);
        due("that of formula 0 did not", x.dual(0), STATE);
    }

    private static void formulaOrWhat() {
        begin("Promise 5: formula", "NONE when there is no such formula or what");
        Bench x = formulas(80);
        int[] noFormula = {LEAST, -1, 80, 81, GREATEST};
        int[] noWhat = {LEAST, -1, 3, 4, GREATEST};
        for (int what = 0; what < 3; what++) {
            due("the first formula", x.formula(0, what), new int[] {0, 0, 1}[what]);
            due("the last formula", x.formula(79, what), new int[] {1, 0, 78}[what]);
            for (int f : noFormula) {
                due("formula(" + f + ", " + what + ")", x.formula(f, what), NONE);
            }
        }
        for (int what : noWhat) {
            due("an atom's " + what, x.formula(0, what), NONE);
            due("a tensor's " + what, x.formula(79, what), NONE);
        }
        Bench y = formulas(2);
        due("the last of two", y.formula(1, 2), 0);
        due("one more", y.formula(2, 0), NONE);
    }

    // Promises 6 to 10.

    private static void drawingPromises() {
        numbersBeginAgain();
        nothingIsLeftBehind();
        linksThatWere();
        axiomOfNothing();
        axiomRoom();
        linkOfWhat();
        linkRoom();
        cutOfWhat();
        cutRoom();
        concludeWhat();
    }

    private static void numbersBeginAgain() {
        begin("Promise 6: clear", "There are no links and edges then, and numbers begin at 0 again.");
        Bench x = withAxioms(worn(57), 3);
        x.conclude(56);
        x.clear();
        due("links()", x.links(), 0);
        due("cuts()", x.cuts(), 0);
        due("the link that was left", x.look(59, 0), NONE);
        due("its edge", x.type(62), NONE);
        due("its conclusion", x.conclusion(0), NONE);
        due("judge()", x.judge(), 3);
        due("formulas stay", x.formula(1, 0), 0);
        due("the first link", x.axiom(0), 0);
        due("its first edge", x.look(0, 1), 0);
        due("the first conclusion", x.conclude(1), 0);
        for (int links = 1; links < 57; links += 2) {
            x.axiom(0);
            x.cut(links - 1, links + 2);
            x.reduce(0);
        }
        due("there is room for 60 links again", x.axiom(0), 57);
    }

    /** Three axioms and two cuts, cleared; then so many axioms where there were other links. */
    private static Bench cleared(int axioms) {
        Bench x = axioms(1);
        x.cut(0, 1);
        x.axiom(0);
        x.cut(2, 3);
        x.axiom(0);
        x.conclude(4);
        x.clear();
        return withAxioms(x, axioms);
    }

    private static void nothingIsLeftBehind() {
        begin("Promise 6: clear", "There are no links and edges then");
        for (int count = 0; count < 4; count++) {
            int axioms = count;
            Supplier<Bench> state = () -> cleared(axioms);
            Bench x = state.get();
            due("cuts()", x.cuts(), 0);
            due("links()", x.links(), axioms);
            for (int link = axioms; link < 6; link++) {
                due("look(" + link + ", 0)", x.look(link, 0), NONE);
                due("look(" + link + ", 1)", x.look(link, 1), NONE);
            }
            for (int i = 0; i < 3; i++) {
                int c = i;
                due("conclusion(" + c + ")", x.conclusion(c), NONE);
                refused(state, "reduce(" + c + ")", y -> y.reduce(c), NO);
            }
            int e = 2 * axioms;
            due("type(" + e + ")", x.type(e), NONE);
            refused(state, "normalise(0)", y -> y.normalise(0), NONE);
            refused(state, "conclude(" + e + ")", y -> y.conclude(e), NONE);
            refused(state, "link(0, " + e + ", true)", y -> y.link(0, e, true), ARGUMENT);
            refused(state, "cut(0, " + (e + 1) + ")", y -> y.cut(0, e + 1), ARGUMENT);
            refused(state, "cut(" + (e + 1) + ", 0)", y -> y.cut(e + 1, 0), ARGUMENT);
        }
        Bench full = withAxioms(cleared(1), 23);
        due("edges of axioms are free again", full.conclude(0), 0);
        due("all of them", full.conclude(4), 1);
    }

    private static void linksThatWere() {
        begin("Promise 6: clear", "Answers how many links there were.");
        due("none", letter().clear(), 0);
        due("one", axioms(1).clear(), 1);
        due("24", axioms(24).clear(), 24);
        due("one of 59 in all", worn(59).clear(), 1);
        Bench x = axioms(3);
        due("the first time", x.clear(), 3);
        due("the second time", x.clear(), 0);
    }

    private static void axiomOfNothing() {
        begin("Promise 7: axiom", "IllegalArgumentException: there is no such formula");
        due("the first one", formulas(3).axiom(0), 0);
        due("the last one", formulas(3).axiom(2), 0);
        for (int f : new int[] {LEAST, -1, 3, 80, GREATEST}) {
            refused(() -> formulas(3), "axiom(" + f + ")", x -> x.axiom(f), ARGUMENT);
        }
    }

    private static void axiomRoom() {
        begin("Promise 7: axiom",
                "IllegalStateException: there is no room for it (links, edges), or for the dual (formulas)");
        due("a 24th link", axioms(23).axiom(0), 23);
        refused(() -> axioms(24), "a 25th link", x -> x.axiom(0), STATE);
        due("the 60th in all", worn(59).axiom(0), 59);
        refused(() -> withAxioms(worn(59), 1), "the 61st in all", x -> x.axiom(0), STATE);
        Supplier<Bench> newDual = () -> {
            Bench x = axioms(24);
            x.pair(0, 0, true);
            return x;
        };
        refused(newDual, "a 25th link with a new dual", x -> x.axiom(2), STATE);
        due("40 formulas and their duals", doublings(40).axiom(39), 0);
        refused(() -> doublings(41), "41 formulas and their duals", x -> x.axiom(40), STATE);
        refused(() -> formulas(80), "a new dual at 80", x -> x.axiom(79), STATE);
        due("an old dual at 80", formulas(80).axiom(1), 0);
    }

    private static void linkOfWhat() {
        begin("Promise 8: link", "IllegalArgumentException: an edge is not there, or not free, or both are the same");
        Supplier<Bench> state = () -> {
            Bench x = worn(3);
            x.axiom(0);
            x.conclude(5);
            return x;
        };
        due("the first edge that is there, and the last free one", state.get().link(2, 4, true), 4);
        due("the other way", state.get().link(4, 2, false), 4);
        due("both edges of an axiom", state.get().link(2, 3, false), 4);
        for (int e : new int[] {LEAST, -1, 0, 1, 5, 6, 100, GREATEST}) {
            refused(state, "left " + e, x -> x.link(e, 2, true), ARGUMENT);
            refused(state, "right " + e, x -> x.link(2, e, false), ARGUMENT);
            refused(state, "both " + e, x -> x.link(e, e, true), ARGUMENT);
        }
        refused(state, "a free one twice", x -> x.link(2, 2, true), ARGUMENT);
        refused(state, "the last free one twice", x -> x.link(4, 4, false), ARGUMENT);
        Supplier<Bench> after = () -> {
            Bench x = axioms(2);
            x.link(0, 2, true);
            return x;
        };
        refused(after, "a left premise", x -> x.link(0, 1, true), ARGUMENT);
        refused(after, "a right premise", x -> x.link(1, 2, false), ARGUMENT);
        due("a tensor's edge", after.get().link(4, 1, true), 3);
    }

    private static void linkRoom() {
        begin("Promise 8: link",
                "IllegalStateException: there is no room for it (links, par links, edges), or for its formula");
        due("a 24th link", axioms(23).link(44, 45, false), 23);
        refused(() -> axioms(24), "a 25th link", x -> x.link(46, 47, true), STATE);
        due("the 60th in all", worn(59).link(58, 59, false), 59);
        refused(() -> withAxioms(worn(59), 1), "the 61st in all", x -> x.link(58, 59, true), STATE);
        due("an 8th par", pars(7).link(14, 15, false), 17);
        refused(() -> pars(8), "a 9th par", x -> x.link(16, 17, false), STATE);
        refused(() -> pars(8), "a 9th par of a new formula", x -> x.link(18, 16, false), STATE);
        due("a tensor beside 8 pars", pars(8).link(16, 17, true), 19);
        refused(() -> withAxioms(formulas(80), 2), "a new formula at 80", x -> x.link(1, 0, false), STATE);
        due("an old formula at 80", withAxioms(formulas(80), 2).link(0, 1, true), 2);
        due("a new formula at 79", withAxioms(formulas(79), 2).link(1, 0, false), 2);
    }

    private static void cutOfWhat() {
        begin("Promise 9: cut",
                "IllegalArgumentException: an edge is not there, or not free, or their formulas are not duals");
        Supplier<Bench> state = () -> {
            Bench x = worn(3);
            x.axiom(0);
            x.conclude(5);
            return x;
        };
        due("the first edge that is there, and another", state.get().cut(2, 3), 4);
        due("the last free one", state.get().cut(4, 3), 4);
        for (int e : new int[] {LEAST, -1, 0, 1, 5, 6, 100, GREATEST}) {
            int other = e == 0 ? 3 : 2;
            refused(state, "left " + e, x -> x.cut(e, other), ARGUMENT);
            refused(state, "right " + e, x -> x.cut(other, e), ARGUMENT);
        }
        refused(state, "an edge with itself", x -> x.cut(2, 2), ARGUMENT);
        refused(state, "equal formulas", x -> x.cut(2, 4), ARGUMENT);
        notDuals();
    }

    /** Edges 0 to 3 are of a, its dual, b, its dual; then tensors and pars of those. */
    private static void notDuals() {
        Supplier<Bench> state = () -> {
            Bench x = letter();
            x.atom(1, true);
            for (int i = 0; i < 8; i++) {
                x.axiom(i % 2);
            }
            x.link(0, 2, true);
            x.link(1, 3, false);
            x.link(7, 5, false);
            x.link(9, 11, true);
            x.link(4, 6, false);
            return x;
        };
        due("a tensor and a par of duals", state.get().cut(16, 17), 13);
        due("the other way", state.get().cut(17, 16), 13);
        refused(state, "another letter", x -> x.cut(8, 15), ARGUMENT);
        refused(state, "a par of duals, left and right changed", x -> x.cut(16, 18), ARGUMENT);
        refused(state, "a tensor of duals", x -> x.cut(16, 19), ARGUMENT);
        refused(state, "a par of the same", x -> x.cut(16, 20), ARGUMENT);
        refused(state, "an atom", x -> x.cut(16, 8), ARGUMENT);
        due("a par and a tensor of duals", state.get().cut(20, 19), 13);
        Supplier<Bench> noDual = () -> {
            Bench x = axioms(3);
            x.link(0, 2, true);
            return x;
        };
        refused(noDual, "a formula whose dual is not there", x -> x.cut(6, 1), ARGUMENT);
        refused(noDual, "the other way", x -> x.cut(1, 6), ARGUMENT);
        refused(noDual, "with itself", x -> x.cut(6, 6), ARGUMENT);
    }

    private static void cutRoom() {
        begin("Promise 9: cut", "IllegalStateException: there is no room for it");
        due("a 24th link", axioms(23).cut(0, 1), 23);
        refused(() -> axioms(24), "a 25th link", x -> x.cut(0, 1), STATE);
        due("the 60th in all", worn(59).cut(58, 59), 59);
        refused(() -> withAxioms(worn(59), 1), "the 61st in all", x -> x.cut(58, 61), STATE);
        due("beside 80 formulas", withAxioms(formulas(80), 1).cut(0, 1), 1);
        due("beside 8 pars", pars(8).cut(16, 19), 19);
    }

    private static void concludeWhat() {
        begin("Promise 10: conclude", "NONE when there is none such");
        Supplier<Bench> state = () -> {
            Bench x = withAxioms(worn(3), 2);
            x.conclude(5);
            x.cut(4, 3);
            x.link(6, 7, true);
            return x;
        };
        due("the first free edge", state.get().conclude(2), 1);
        due("the last edge", state.get().conclude(8), 1);
        for (int e : new int[] {LEAST, -1, 0, 1, 3, 4, 5, 6, 7, 9, 100, GREATEST}) {
            refused(state, "conclude(" + e + ")", x -> x.conclude(e), NONE);
        }
        Bench x = axioms(24);
        for (int e = 0; e < 48; e++) {
            due("all 48 of 24 axioms", x.conclude(47 - e), e);
        }
        due("none is left", x.conclude(0), NONE);
        due("one more", x.conclude(48), NONE);
    }

    // Promises 11 to 14.

    private static void lookingPromises() {
        lookAtWhat();
        typeOfWhat();
        conclusionOfWhat();
        howManyLinks();
    }

    private static void lookAtWhat() {
        begin("Promise 11: look", "NONE when there is no such link, or nothing");
        Bench x = withAxioms(worn(3), 1);
        x.link(2, 4, true);
        x.link(3, 5, false);
        x.cut(6, 7);
        int[] kinds = {NONE, 0, NONE, 0, 1, 2, 3};
        int[] edges = {NONE, NONE, NONE, NONE, 6, 7, NONE};
        for (int link = 0; link < 7; link++) {
            due("kind of " + link, x.look(link, 0), kinds[link]);
            due("edge of " + link, x.look(link, 3), edges[link]);
            for (int what : new int[] {LEAST, -1, 4, GREATEST}) {
                due("look(" + link + ", " + what + ")", x.look(link, what), NONE);
            }
        }
        for (int what = 0; what < 4; what++) {
            for (int link : new int[] {LEAST, -1, 0, 2, 7, 60, GREATEST}) {
                due("look(" + link + ", " + what + ")", x.look(link, what), NONE);
            }
        }
        Bench y = withAxioms(worn(59), 1);
        due("the 60th", y.look(59, 2), 61);
        due("the 61st", y.look(60, 2), NONE);
    }

    private static void typeOfWhat() {
        begin("Promise 12: type", "NONE when there is none such");
        Bench x = worn(3);
        due("the first that is there", x.type(2), 0);
        due("the last", x.type(3), 1);
        for (int e : new int[] {LEAST, -1, 0, 1, 4, 99, 100, GREATEST}) {
            due("type(" + e + ")", x.type(e), NONE);
        }
        x.conclude(2);
        due("one that is named", x.type(2), 0);
    }

    private static void conclusionOfWhat() {
        begin("Promise 13: conclusion", "NONE when there are not so many");
        Bench x = axioms(24);
        due("none yet", x.conclusion(0), NONE);
        for (int e = 0; e < 48; e++) {
            x.conclude(e);
        }
        due("the first", x.conclusion(0), 0);
        due("the last", x.conclusion(47), 47);
        for (int i : new int[] {LEAST, -1, 48, 99, 100, GREATEST}) {
            due("conclusion(" + i + ")", x.conclusion(i), NONE);
        }
        x.clear();
        due("none any more", x.conclusion(0), NONE);
    }

    private static void howManyLinks() {
        begin("Promise 14: links", "How many links there are.");
        due("none", letter().links(), 0);
        due("one", axioms(1).links(), 1);
        due("24", axioms(24).links(), 24);
        due("without those that are gone", worn(59).links(), 1);
        Bench x = axioms(24);
        x.axiom(0);
        x.cut(0, 1);
        due("without those that were refused", x.links(), 24);
        x.clear();
        due("none any more", x.links(), 0);
    }

    // Promises 15 and 16.

    private static void judgingPromises() {
        verdicts();
        cycleGoesFirst();
        leastCycle();
        noFault();
    }

    private static void verdicts() {
        begin("Promise 15: judge", "3 when it is not complete; otherwise 1 when some switching's graph has a cycle, else 2");
        due("no links", letter().judge(), 3);
        due("a free edge", axioms(1).judge(), 3);
        due("one axiom", chain(1).judge(), 0);
        due("24 links", greatNet().judge(), 0);
        Bench two = axioms(2);
        for (int e = 0; e < 4; e++) {
            due("not yet", two.judge(), 3);
            two.conclude(e);
        }
        due("two axioms", two.judge(), 2);
        due("a cycle by the last switching of 256 alone", parRow(3).judge(), 1);
        due("by none of 256", parRow(0).judge(), 2);
        Bench free = axioms(2);
        free.cut(0, 1);
        due("a cycle beside a free edge", free.judge(), 3);
        Bench eight = eightParNet();
        due("a net of 8 pars", eight.judge(), 0);
        Bench most = axioms(24);
        for (int e = 0; e < 48; e++) {
            most.conclude(e);
        }
        due("24 axioms", most.judge(), 2);
    }

    /** Eight axioms in a row of tensors, all their edges gathered by eight pars. */
    private static Bench eightParNet() {
        Bench x = axioms(8);
        for (int i = 0; i < 7; i++) {
            x.link(2 * i + 1, 2 * i + 2, true);
        }
        x.link(0, 15, false);
        for (int i = 0; i < 7; i++) {
            x.link(23 + i, 16 + i, false);
        }
        x.conclude(30);
        return x;
    }

    private static void cycleGoesFirst() {
        begin("Promise 15: judge", "otherwise 1 when some switching's graph has a cycle, else 2");
        Bench x = axioms(2);
        x.link(0, 2, false);
        x.link(4, 3, true);
        x.conclude(1);
        x.conclude(5);
        due("loose by the left one, a cycle by the right one", x.judge(), 1);
        due("the right one", x.fault(), 1);
        Bench y = axioms(2);
        y.link(2, 0, false);
        y.link(4, 3, true);
        y.conclude(1);
        y.conclude(5);
        due("the other way", y.judge(), 1);
        due("the left one", y.fault(), 0);
    }

    private static void leastCycle() {
        begin("Promise 16: fault", "The least switching whose graph has a cycle, when judge() is 1; "
                + "the least one whose graph is not connected, when it is 2");
        due("the last of 256", parRow(3).fault(), 255);
        due("by the last par's left one", parRow(19).fault(), 0);
        due("by the last par's right one", parRow(17).fault(), 128);
        due("not connected by any", parRow(0).fault(), 0);
        Bench two = axioms(2);
        for (int e = 0; e < 4; e++) {
            two.conclude(e);
        }
        due("not connected, without a par", two.fault(), 0);
        Bench ring = axioms(1);
        ring.cut(0, 1);
        due("a cycle, without a par", ring.fault(), 0);
    }

    private static void noFault() {
        begin("Promise 16: fault", "NONE otherwise");
        due("no links", letter().fault(), NONE);
        due("not complete", axioms(1).fault(), NONE);
        due("a net", chain(1).fault(), NONE);
        due("a net of 8 pars", eightParNet().fault(), NONE);
        Bench x = parRow(3);
        due("a cycle", x.fault(), 255);
        x.axiom(0);
        due("a cycle, not complete", x.fault(), NONE);
        x.clear();
        due("no links any more", x.fault(), NONE);
    }

    // Promises 17 to 19.

    private static void cuttingPromises() {
        howManyCuts();
        reduceWhich();
        normaliseModulo();
        normaliseWhat();
        normaliseSteps();
    }

    private static void howManyCuts() {
        begin("Promise 17: cuts", "How many cuts there are.");
        due("none", letter().cuts(), 0);
        due("no cut among 24", axioms(24).cuts(), 0);
        Bench x = axioms(12);
        for (int i = 0; i < 12; i++) {
            due("so far", x.cuts(), i);
            x.cut(2 * i + 1, (2 * i + 2) % 24);
        }
        due("twelve in a ring", x.cuts(), 12);
        x.cut(0, 1);
        due("without one that was refused", x.cuts(), 12);
        for (int i = 11; i > 0; i--) {
            due("reduce(0)", x.reduce(0), YES);
            due("so many are left", x.cuts(), i);
        }
        due("the last one", x.reduce(0), NO);
        due("is there", x.cuts(), 1);
        Bench y = wornSplit(1);
        y.reduce(0);
        due("two of one", y.cuts(), 2);
        y.clear();
        due("none any more", y.cuts(), 0);
    }

    private static void reduceWhich() {
        begin("Promise 18: reduce", "false when there is none such, it can't be reduced, or there would be more than 60 links in all");
        Supplier<Bench> three = () -> chain(4);
        due("the first", three.get().reduce(0), YES);
        Bench last = three.get();
        due("the last", last.reduce(2), YES);
        due("is gone", last.look(6, 0), NONE);
        due("the first is there", last.look(4, 0), 3);
        for (int c : new int[] {LEAST, -1, 3, 60, GREATEST}) {
            refused(three, "reduce(" + c + ") of three", x -> x.reduce(c), NO);
        }
        refused(() -> axioms(24), "no cut", x -> x.reduce(0), NO);
        Supplier<Bench> same = () -> {
            Bench x = axioms(1);
            x.cut(0, 1);
            return x;
        };
        refused(same, "it can't be reduced", x -> x.reduce(0), NO);
        Bench sixty = withAxioms(wornSplit(53), 1);
        due("60 links in all", sixty.reduce(0), YES);
        due("the last cut", sixty.look(59, 0), 3);
        refused(() -> wornSplit(55), "61 links in all", x -> x.reduce(0), NO);
        refused(() -> wornNet(49, false), "61 links in all, the second cut", x -> x.reduce(1), NO);
        due("an axiom's cut makes none", wornNet(49, false).reduce(0), YES);
        Bench full = withAxioms(worn(57), 2);
        full.cut(57, 58);
        due("an axiom's cut at 60", full.reduce(0), YES);
        due("the place as a free edge", full.conclude(58), 0);
    }

    /** Four axioms in a row with three cuts; bit i of turned tells that cut i is the other way. */
    private static Bench turnedChain(int turned) {
        Bench x = axioms(4);
        for (int i = 0; i < 3; i++) {
            boolean otherWay = (turned >> i & 1) == 1;
            x.cut(2 * i + (otherWay ? 2 : 1), 2 * i + (otherWay ? 1 : 2));
        }
        x.conclude(0);
        x.conclude(7);
        return x;
    }

    /** The axiom that stays tells by some of the ways in which cuts are turned which one came when. */
    private static void normaliseModulo() {
        begin("Promise 19: normalise", "each time the c-th one, with c the pick modulo the number of cuts");
        for (int pick : new int[] {0, 1, 2, 3, 4, 5, 6, 7, GREATEST - 1, GREATEST}) {
            for (int turned = 0; turned < 8; turned++) {
                Bench byHand = turnedChain(turned);
                for (int cuts = 3; cuts > 0; cuts--) {
                    byHand.reduce(pick % cuts);
                }
                Bench x = turnedChain(turned);
                String call = "normalise(" + pick + ") of cuts turned " + turned;
                due(call, x.normalise(pick), 3);
                for (int link = 0; link < 4; link++) {
                    due("link " + link + " after " + call, x.look(link, 1), byHand.look(link, 1));
                }
                due("conclusion(0) after " + call, x.conclusion(0), byHand.conclusion(0));
                due("conclusion(1) after " + call, x.conclusion(1), byHand.conclusion(1));
            }
        }
        int[] staying = {3, 0, 3, 3, 3, 0, 3, 0};
        for (int pick = 0; pick < 8; pick++) {
            Bench x = turnedChain(1);
            x.normalise(pick);
            due("the axiom that stays after normalise(" + pick + ")", x.rule(0), staying[pick]);
        }
        due("no cut", chain(1).normalise(0), 0);
        due("no cut, the greatest pick", chain(1).normalise(GREATEST), 0);
        due("one cut, the greatest pick", chain(2).normalise(GREATEST), 1);
        due("eleven cuts", chain(12).normalise(5), 11);
    }

    private static void normaliseWhat() {
        begin("Promise 19: normalise",
                "NONE when the structure is no net, pick is below 0, or some step can't be (and nothing is changed)");
        refused(BoundaryTest::letter, "no links", x -> x.normalise(0), NONE);
        refused(() -> axioms(1), "not complete", x -> x.normalise(0), NONE);
        Supplier<Bench> free = () -> {
            Bench x = axioms(2);
            x.cut(1, 2);
            x.conclude(0);
            return x;
        };
        refused(free, "a cut, and a free edge", x -> x.normalise(0), NONE);
        Supplier<Bench> ring = () -> {
            Bench x = axioms(2);
            x.cut(1, 2);
            x.cut(3, 0);
            return x;
        };
        refused(ring, "a cycle", x -> x.normalise(0), NONE);
        Supplier<Bench> loose = () -> {
            Bench x = chain(2);
            x.axiom(0);
            x.conclude(4);
            x.conclude(5);
            return x;
        };
        refused(loose, "not connected", x -> x.normalise(0), NONE);
        for (int pick : new int[] {-1, -2, LEAST}) {
            refused(() -> chain(3), "pick " + pick, x -> x.normalise(pick), NONE);
            refused(() -> chain(1), "pick " + pick + " without a cut", x -> x.normalise(pick), NONE);
        }
        due("pick 0", chain(3).normalise(0), 2);
    }

    private static void normaliseSteps() {
        begin("Promise 19: normalise", "or some step can't be (and nothing is changed)");
        Bench x = wornNet(47, true);
        due("58 links in all", x.look(57, 0), 2);
        due("judge()", x.judge(), 0);
        due("with 60 in all", x.normalise(0), 4);
        due("cuts()", x.cuts(), 0);
        due("judge()", x.judge(), 0);
        due("no room is left", x.axiom(0), STATE);
        due("the other order", wornNet(47, true).normalise(1), 4);
        Supplier<Bench> one = () -> wornNet(49, false);
        due("59 links in all", one.get().look(58, 0), 3);
        Supplier<Bench> two = () -> wornNet(49, true);
        due("60 links in all", two.get().look(59, 0), 2);
        for (int pick = 0; pick < 3; pick++) {
            int p = pick;
            refused(one, "with 61 in all, pick " + pick, y -> y.normalise(p), NONE);
            refused(two, "with 62 in all, pick " + pick, y -> y.normalise(p), NONE);
        }
        Bench y = one.get();
        due("refused", y.normalise(0), NONE);
        due("the same as before", y.same(), YES);
        due("the next link", y.axiom(0), 59);
    }

    // Promises 20 to 22.

    private static void readingPromises() {
        emptyAtFirst();
        inPlaceOfTheLast();
        bothNets();
        sameBut();
        sameOfMany();
        leastNumbers();
        ruleOfWhat();
    }

    private static void emptyAtFirst() {
        begin("Promise 20: keep", "(the empty one at first)");
        due("nothing with the empty one", letter().same(), NO);
        due("a net with the empty one", chain(1).same(), NO);
        Bench x = letter();
        x.keep();
        due("the empty one again", x.same(), NO);
        x.axiom(0);
        x.conclude(0);
        x.conclude(1);
        due("a net with it", x.same(), NO);
        x.keep();
        due("the net with itself", x.same(), YES);
        x.clear();
        due("the empty one with the net", x.same(), NO);
        x.keep();
        x.axiom(0);
        x.conclude(0);
        x.conclude(1);
        due("the net with the empty one that is kept", x.same(), NO);
    }

    private static void inPlaceOfTheLast() {
        begin("Promise 20: keep", "Remembers the structure, in place of what was remembered");
        Bench x = chain(3);
        x.keep();
        due("what is kept", x.same(), YES);
        due("reduce(0)", x.reduce(0), YES);
        due("is not reduced with the other one", x.same(), NO);
        x.keep();
        due("is replaced", x.same(), YES);
        due("reduce(0)", x.reduce(0), YES);
        due("is replaced by the last one alone", x.same(), NO);
        x.clear();
        withAxioms(x, 2);
        x.cut(1, 2);
        x.conclude(0);
        x.conclude(3);
        due("after clear", x.same(), YES);
        x.build(x.pair(0, 1, false), 0);
        due("after build", x.same(), NO);
        x.keep();
        x.build(2, 0);
        due("built twice", x.same(), YES);
        Bench great = greatNet();
        great.keep();
        due("24 links", great.same(), YES);
    }

    private static void bothNets() {
        begin("Promise 21: same", "Whether the structure and the one that is remembered are both nets");
        Bench free = axioms(1);
        free.keep();
        due("not complete, both", free.same(), NO);
        free.conclude(0);
        free.conclude(1);
        due("a net, and one that is not complete", free.same(), NO);
        free.keep();
        due("both nets", free.same(), YES);
        free.axiom(0);
        due("not complete, and a net", free.same(), NO);
        Bench ring = axioms(1);
        ring.cut(0, 1);
        ring.keep();
        due("a cycle, both", ring.same(), NO);
        Bench loose = axioms(2);
        for (int e = 0; e < 4; e++) {
            loose.conclude(e);
        }
        loose.keep();
        due("not connected, both", loose.same(), NO);
        Bench numbers = chain(1);
        numbers.keep();
        numbers.clear();
        withAxioms(numbers, 2);
        numbers.cut(1, 2);
        numbers.conclude(0);
        numbers.conclude(3);
        due("a cut more", numbers.same(), NO);
        numbers.reduce(0);
        due("behind those that are gone", numbers.same(), YES);
    }

    /** Two axioms, a tensor and a par, drawn by their edges; then the order of the conclusions. */
    private static void draw(Bench x, int f, int[] tensor, int[] par, boolean tensorFirst) {
        x.clear();
        x.axiom(f);
        x.axiom(0);
        x.link(tensor[0], tensor[1], true);
        x.link(par[0], par[1], false);
        x.conclude(tensorFirst ? 4 : 5);
        x.conclude(tensorFirst ? 5 : 4);
    }

    private static void sameBut() {
        begin("Promise 21: same", "the same but for the numbers of links and edges, and for which edge of an axiom is "
                + "its first one; conclusions by their numbers, premises left and right");
        Bench x = letter();
        draw(x, 0, new int[] {0, 2}, new int[] {1, 3}, true);
        x.keep();
        due("the same", x.same(), YES);
        draw(x, 1, new int[] {1, 2}, new int[] {0, 3}, true);
        due("an axiom's edges the other way", x.same(), YES);
        draw(x, 0, new int[] {2, 0}, new int[] {3, 1}, true);
        due("the axioms' numbers", x.same(), YES);
        draw(x, 0, new int[] {0, 2}, new int[] {1, 3}, false);
        due("the conclusions' numbers", x.same(), NO);
        draw(x, 0, new int[] {2, 0}, new int[] {1, 3}, true);
        due("a tensor's premises", x.same(), NO);
        draw(x, 0, new int[] {0, 2}, new int[] {3, 1}, true);
        due("a par's premises", x.same(), NO);
        x.clear();
        withAxioms(x, 2);
        x.link(1, 3, false);
        x.link(0, 2, true);
        x.conclude(5);
        x.conclude(4);
        due("the links' numbers", x.same(), YES);
        x.clear();
        x.axiom(x.atom(1, true));
        x.conclude(0);
        x.conclude(1);
        x.keep();
        x.clear();
        x.axiom(0);
        x.conclude(0);
        x.conclude(1);
        due("an atom's letter", x.same(), NO);
        x.keep();
        x.clear();
        x.axiom(1);
        x.conclude(0);
        x.conclude(1);
        due("one axiom, its conclusions' formulas", x.same(), NO);
        for (int changed = 0; changed < 2; changed++) {
            x.clear();
            withAxioms(x, 3);
            x.cut(changed == 0 ? 1 : 3, changed == 0 ? 2 : 4);
            x.link(changed == 0 ? 3 : 1, changed == 0 ? 4 : 2, true);
            for (int e : new int[] {0, 5, 6}) {
                x.conclude(e);
            }
            if (changed == 0) {
                x.keep();
            }
            due("a cut and a tensor, change " + changed, x.same(), changed == 0 ? YES : NO);
        }
    }

    /** The great net with its axioms in turn the other way and its tensors from the last to the first. */
    private static void sameOfMany() {
        begin("Promise 21: same", "the same but for the numbers of links and edges");
        for (int changed = 0; changed < 3; changed++) {
            Bench x = greatNet();
            x.keep();
            x.clear();
            for (int i = 0; i < 12; i++) {
                x.axiom(i % 2);
            }
            for (int i = 10; i >= 0; i--) {
                int left = 2 * i + 1 - i % 2;
                int right = 2 * i + 2 + (i + 1) % 2;
                x.link(changed == 1 && i == 0 ? right : left, changed == 1 && i == 0 ? left : right, true);
            }
            x.link(0, 22, false);
            for (int i = 0; i < 10; i++) {
                x.conclude(34 - i);
            }
            x.conclude(changed == 2 ? 35 : 24);
            x.conclude(changed == 2 ? 24 : 35);
            due("judge()", x.judge(), 0);
            due("24 links, change " + changed, x.same(), changed == 0 ? YES : NO);
        }
    }

    private static void dueRow(String what, Bench x, int... want) {
        for (int i = 0; i < want.length; i++) {
            due(what + ", rule(" + i + ")", x.rule(i), want[i]);
        }
        due(what + ", one more", x.rule(want.length), NONE);
    }

    private static void leastNumbers() {
        begin("Terms", "the one with the least number without which what is left falls into two pieces");
        Bench x = axioms(3);
        x.link(3, 4, true);
        x.link(1, 2, true);
        for (int e : new int[] {0, 5, 6, 7}) {
            x.conclude(e);
        }
        dueRow("two that split", x, 3, 4, 0, 1, 2);
        Bench cut = axioms(3);
        cut.cut(1, 2);
        cut.link(3, 4, true);
        for (int e : new int[] {0, 5, 6}) {
            cut.conclude(e);
        }
        dueRow("a cut before a tensor", cut, 3, 0, 4, 1, 2);
        Bench later = axioms(3);
        later.link(0, 2, true);
        later.link(1, 3, false);
        later.link(4, 7, true);
        for (int e : new int[] {5, 6, 8}) {
            later.conclude(e);
        }
        dueRow("the first one does not split, by a par's premises", later, 5, 2, 4, 3, 0, 1);
        Bench far = axioms(4);
        far.link(0, 2, true);
        far.link(1, 4, true);
        far.link(9, 3, false);
        far.link(10, 6, true);
        for (int e : new int[] {5, 7, 8, 11}) {
            far.conclude(e);
        }
        dueRow("nor by a way through a tensor's edge", far, 7, 6, 4, 5, 0, 2, 1, 3);
        Bench through = axioms(4);
        through.link(0, 2, true);
        through.cut(1, 4);
        through.link(5, 3, false);
        through.link(9, 6, true);
        for (int e : new int[] {7, 8, 10}) {
            through.conclude(e);
        }
        dueRow("nor by a way through a cut", through, 7, 6, 4, 5, 0, 2, 1, 3);
        Bench above = axioms(3);
        above.link(1, 2, true);
        above.link(6, 4, true);
        for (int e : new int[] {0, 3, 5, 7}) {
            above.conclude(e);
        }
        dueRow("the first one is a premise", above, 4, 3, 0, 1, 2);
        Bench pars = eightParNet();
        dueRow("pars, the last of a row first", pars, 22, 21, 20, 19, 18, 17, 16, 15,
                8, 0, 9, 1, 10, 2, 11, 3, 12, 4, 13, 5, 14, 6, 7);
    }

    private static void ruleOfWhat() {
        begin("Promise 22: rule", "NONE when the structure is no net, or there is none such");
        Bench x = greatNet();
        due("the first of 24", x.rule(0), 23);
        due("the second of 24", x.rule(1), 12);
        due("the last of 24", x.rule(23), 11);
        for (int i : new int[] {LEAST, -1, 24, 60, GREATEST}) {
            due("rule(" + i + ") of 24", x.rule(i), NONE);
        }
        due("rule(0) of one", chain(1).rule(0), 0);
        due("rule(1) of one", chain(1).rule(1), NONE);
        due("no links", letter().rule(0), NONE);
        due("not complete", axioms(1).rule(0), NONE);
        due("a cycle", parRow(3).rule(0), NONE);
        due("not connected", parRow(0).rule(0), NONE);
        Bench worn = wornNet(49, true);
        due("the first behind those that are gone", worn.rule(0), 59);
        due("the last of twelve is an axiom", worn.look(worn.rule(11), 0), 0);
        due("one more", worn.rule(12), NONE);
    }

    // Promises 23 to 25.

    private static void linkingPromises() {
        linkingsOfWhat();
        linkingsOfVeryMany();
        oddNumber();
        partnerOfWhat();
        buildWhat();
        buildInAnyState();
    }

    private static void linkingsOfWhat() {
        begin("Promise 23: linkings", "NONE when there is no such formula, or it has more than 8 occurrences");
        Bench x = manyLinkings();
        due("8 occurrences", x.linkings(6), 24);
        due("an atom", x.linkings(0), 0);
        for (int f : new int[] {LEAST, -1, 7, 80, GREATEST}) {
            due("linkings(" + f + ")", x.linkings(f), NONE);
        }
        due("8 of one atom", x.linkings(x.pair(3, 3, true)), 0);
        due("9 occurrences", x.linkings(x.pair(6, 0, false)), NONE);
        due("9 occurrences, the other way", x.linkings(x.pair(1, 6, true)), NONE);
        due("10 occurrences", x.linkings(x.pair(6, 2, false)), NONE);
        due("16 occurrences", x.linkings(x.pair(6, 6, true)), NONE);
        Bench full = formulas(80);
        due("8 occurrences among 80", full.linkings(8), 0);
        due("9 occurrences among 80", full.linkings(9), NONE);
        due("the last among 80", full.linkings(79), NONE);
    }

    /** Numbers of occurrences that would be 0 or 2 again if they were counted by 32 or 64 bits. */
    private static void linkingsOfVeryMany() {
        begin("Promise 23: linkings", "it has more than 8 occurrences");
        Bench x = formulas(2);
        int two = x.pair(0, 1, false);
        int great = two;
        for (int power = 2; power <= 66; power++) {
            great = x.pair(great, great, true);
            if (power > 3) {
                due("2^" + power, x.linkings(great), NONE);
            }
            if (power == 31 || power == 32 || power == 63 || power == 64) {
                int beside = x.pair(two, great, true);
                due("2^" + power + " + 2", x.linkings(beside), NONE);
                due("partner in such a one", x.partner(beside, 0, 0), NONE);
                due("build of such a one", x.build(beside, 0), NONE);
            }
        }
    }

    private static void oddNumber() {
        begin("Promise 23: linkings", "(0 for an odd number of these.)");
        Bench x = manyLinkings();
        int three = x.pair(x.pair(0, 1, false), 0, false);
        int five = x.pair(three, 2, false);
        int seven = x.pair(five, 4, true);
        due("1", x.linkings(1), 0);
        due("3", x.linkings(three), 0);
        due("5", x.linkings(five), 0);
        due("7", x.linkings(seven), 0);
        due("9, which is too many", x.linkings(x.pair(seven, 2, false)), NONE);
        due("partner in 7", x.partner(seven, 0, 0), NONE);
        refused(BoundaryTest::manyLinkings, "build of 1", y -> y.build(0, 0), NONE);
    }

    private static void partnerOfWhat() {
        begin("Promise 24: partner", "NONE when there is none such");
        Bench x = manyLinkings();
        due("the first occurrence in the first linking", x.partner(6, 0, 0), 4);
        due("the last occurrence in the first linking", x.partner(6, 0, 7), 3);
        due("the first occurrence in the last linking", x.partner(6, 23, 0), 7);
        due("the last occurrence in the last linking", x.partner(6, 23, 7), 0);
        for (int k : new int[] {LEAST, -1, 8, 9, GREATEST}) {
            due("occurrence " + k, x.partner(6, 0, k), NONE);
            due("occurrence " + k + " in the last", x.partner(6, 23, k), NONE);
        }
        for (int i : new int[] {LEAST, -1, 24, 1 << 28, 1 << 29, GREATEST}) {
            due("linking " + i, x.partner(6, i, 0), NONE);
        }
        for (int f : new int[] {LEAST, -1, 7, 80, GREATEST}) {
            due("formula " + f, x.partner(f, 0, 0), NONE);
        }
        due("of an atom", x.partner(0, 0, 0), NONE);
        due("of an odd number", x.partner(x.pair(4, 0, false), 0, 0), NONE);
        due("of a formula without linkings", x.partner(3, 0, 0), NONE);
        due("of 9 occurrences", x.partner(x.pair(6, 0, false), 0, 0), NONE);
        int two = x.pair(0, 1, false);
        due("the last one of two", x.partner(two, 0, 1), 0);
        due("a third one of two", x.partner(two, 0, 2), NONE);
        due("a second linking of one", x.partner(two, 1, 0), NONE);
        due("no links came", x.links(), 0);
    }

    private static void buildWhat() {
        begin("Promise 25: build", "NONE when there is no such linking");
        due("the first of 24", manyLinkings().build(6, 0), 11);
        due("the last of 24", manyLinkings().build(6, 23), 11);
        Supplier<Bench> drawn = () -> {
            Bench x = manyLinkings();
            withAxioms(x, 2);
            x.cut(1, 2);
            x.conclude(0);
            x.conclude(3);
            x.keep();
            return x;
        };
        for (int i : new int[] {LEAST, -1, 24, 1 << 28, 1 << 29, GREATEST}) {
            refused(drawn, "linking " + i, x -> x.build(6, i), NONE);
        }
        for (int f : new int[] {LEAST, -1, 7, 80, GREATEST}) {
            refused(drawn, "formula " + f, x -> x.build(f, 0), NONE);
        }
        refused(drawn, "an atom", x -> x.build(0, 0), NONE);
        refused(drawn, "a formula without linkings", x -> x.build(3, 0), NONE);
        Supplier<Bench> nine = () -> {
            Bench x = drawn.get();
            x.pair(6, 0, false);
            return x;
        };
        refused(nine, "9 occurrences", x -> x.build(7, 0), NONE);
    }

    private static void buildInAnyState() {
        begin("Promise 25: build", "The structure becomes that of linking i of a formula");
        Bench full = manyLinkings();
        withAxioms(full, 24);
        for (int e = 0; e < 48; e++) {
            full.conclude(e);
        }
        due("among 24 links", full.build(6, 23), 11);
        due("links()", full.links(), 11);
        due("the first link", full.look(0, 0), 0);
        due("the last link", full.look(10, 0), 2);
        due("one more", full.look(11, 0), NONE);
        due("the last edge", full.type(14), 6);
        due("one more", full.type(15), NONE);
        due("the conclusion", full.conclusion(0), 14);
        due("one more", full.conclusion(1), NONE);
        due("judge()", full.judge(), 0);
        Bench worn = withAxioms(worn(57), 3);
        int f = worn.pair(0, 1, false);
        due("behind 60 links", worn.build(f, 0), 2);
        due("numbers begin at 0 again", worn.look(1, 0), 2);
        due("there is room again", worn.axiom(0), 2);
        Bench old = formulas(78);
        int g = old.pair(0, 1, false);
        old.atom(1, true);
        due("among 80 formulas", old.build(g, 0), 2);
        Bench loose = axioms(1);
        due("beside a free edge", loose.build(loose.pair(0, 1, false), 0), 2);
        due("judge()", loose.judge(), 0);
    }

    // Every refusal of every call, in states of many kinds.

    private static void everyRefusal() {
        begin("Terms", "a call that throws, or is refused, changes nothing");
        List<Supplier<Bench>> states = List.of(
                Bench::new,
                () -> formulas(80),
                () -> axioms(24),
                () -> chain(4),
                () -> parRow(3),
                () -> wornNet(49, false),
                () -> {
                    Bench x = manyLinkings();
                    x.build(6, 11);
                    x.keep();
                    return x;
                },
                () -> withAxioms(wornSplit(53), 3),
                () -> cleared(3));
        int refusals = 0;
        for (Supplier<Bench> state : states) {
            List<List<Integer>> before = portrait(state, x -> 0);
            for (Map.Entry<String, ToIntFunction<Bench>> call : calls().entrySet()) {
                int answer = call.getValue().applyAsInt(state.get());
                if (answer == ANOTHER_EXCEPTION || answer < NONE && !namesExceptions(call.getKey())) {
                    fault(call.getKey() + " throws what the document does not name");
                }
                if (isRefused(call.getKey(), answer)) {
                    refusals++;
                    changesNothing(before, state, call.getKey(), call.getValue());
                }
            }
        }
        if (refusals < 1000) {
            fault("only " + refusals + " calls were refused");
        }
    }

    private static boolean namesExceptions(String call) {
        return List.of("atom", "pair", "dual", "axiom", "link", "cut").contains(nameOf(call));
    }

    private static String nameOf(String call) {
        return call.substring(0, call.indexOf('('));
    }

    /** Calls that only tell something are to change nothing whatever they answer. */
    private static boolean isRefused(String call, int answer) {
        switch (nameOf(call)) {
            case "atom":
            case "pair":
            case "dual":
            case "axiom":
            case "link":
            case "cut":
            case "conclude":
            case "normalise":
            case "build":
                return answer < 0;
            case "reduce":
                return answer != YES;
            default:
                return true;
        }
    }

    private static Map<String, ToIntFunction<Bench>> calls() {
        Map<String, ToIntFunction<Bench>> all = new LinkedHashMap<>();
        int[] few = {-1, 0, 1, 6, 48, 60, 80};
        for (int a : new int[] {LEAST, -1, 0, 1, 2, 6, 7, 8, 24, 47, 48, 59, 60, 79, 80, 100, GREATEST}) {
            all.put("atom(" + a + ")", x -> x.atom(a, a % 2 == 0));
            all.put("dual(" + a + ")", x -> x.dual(a));
            all.put("axiom(" + a + ")", x -> x.axiom(a));
            all.put("conclude(" + a + ")", x -> x.conclude(a));
            all.put("type(" + a + ")", x -> x.type(a));
            all.put("conclusion(" + a + ")", x -> x.conclusion(a));
            all.put("reduce(" + a + ")", x -> x.reduce(a));
            all.put("normalise(" + a + ")", x -> x.normalise(a));
            all.put("rule(" + a + ")", x -> x.rule(a));
            all.put("linkings(" + a + ")", x -> x.linkings(a));
            for (int b : few) {
                all.put("pair(" + a + ", " + b + ")", x -> x.pair(a, b, b % 2 == 0));
                all.put("link(" + a + ", " + b + ")", x -> x.link(a, b, a % 2 == 0));
                all.put("cut(" + a + ", " + b + ")", x -> x.cut(a, b));
                all.put("build(" + a + ", " + b + ")", x -> x.build(a, b));
            }
            all.put("formula(" + a + ", 1)", x -> x.formula(a, 1));
            all.put("look(" + a + ", 1)", x -> x.look(a, 1));
            all.put("partner(" + a + ", 0, 0)", x -> x.partner(a, 0, 0));
        }
        all.put("links()", Bench::links);
        all.put("judge()", Bench::judge);
        all.put("fault()", Bench::fault);
        all.put("cuts()", Bench::cuts);
        all.put("same()", Bench::same);
        return all;
    }
}
