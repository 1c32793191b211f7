import java.util.Arrays;

/**
 * A bench for proof nets: structures of links are drawn, judged by all their switchings, read as
 * proofs rule by rule, freed of cuts in any order, and found for a formula by trying how its atoms
 * can be linked.
 */
public final class SwitchedNets {
    public static final int NONE = -1;

    private static final int LETTERS = 8;
    private static final int MAX_FORMULAS = 80;
    private static final int MAX_LINKS = 60;
    private static final int MAX_EDGES = 100;
    private static final int MAX_LINKS_AT_ONCE = 24;
    private static final int MAX_PARS_AT_ONCE = 8;
    private static final int MAX_OCCURRENCES = 8;
    /** Four plain occurrences and four others can be paired in 4! ways, and no row of 8 in more. */
    private static final int MAX_LINKINGS = 24;

    private static final int ATOM = 0;
    private static final int AXIOM = 0;
    private static final int TENSOR = 1;
    private static final int PAR = 2;
    private static final int CUT = 3;

    private static final int NET = 0;
    private static final int CYCLIC = 1;
    private static final int LOOSE = 2;
    private static final int INCOMPLETE = 3;

    private final Formulas formulas;
    private final Structure structure;
    private final Structure kept;
    private final Structure spare;
    private final Switchings switchings;
    private final Proof proof;
    private final Likeness likeness;
    private final LinkingSearch linkingSearch;

    public SwitchedNets() {
        formulas = new Formulas();
        structure = new Structure();
        kept = new Structure();
        spare = new Structure();
        switchings = new Switchings();
        proof = new Proof();
        likeness = new Likeness();
        linkingSearch = new LinkingSearch();
    }

    public int atom(int letter, boolean plain) throws IllegalArgumentException, IllegalStateException {
        if (letter < 0 || letter >= LETTERS) {
            throw new IllegalArgumentException("there is no such letter");
        }
        int plainness = plain ? 1 : 0;
        if (!formulas.canHold(ATOM, letter, plainness)) {
            throw new IllegalStateException("there is no room for a new formula");
        }
        return formulas.obtain(ATOM, letter, plainness);
    }

    public int pair(int left, int right, boolean tensor) throws IllegalArgumentException, IllegalStateException {
        if (!formulas.has(left) || !formulas.has(right)) {
            throw new IllegalArgumentException("there are no such formulas");
        }
        int kind = tensor ? TENSOR : PAR;
        if (!formulas.canHold(kind, left, right)) {
            throw new IllegalStateException("there is no room for a new formula");
        }
        return formulas.obtain(kind, left, right);
    }

    public int dual(int f) throws IllegalArgumentException, IllegalStateException {
        if (!formulas.has(f)) {
            throw new IllegalArgumentException("there is no such formula");
        }
        if (!formulas.canHoldDual(f)) {
            throw new IllegalStateException("there is no room for the dual");
        }
        return formulas.obtainDual(f);
    }

    public int formula(int f, int what) {
        if (!formulas.has(f)) {
            return NONE;
        }
        switch (what) {
            case 0:
                return formulas.kind[f];
            case 1:
                return formulas.left[f];
            case 2:
                return formulas.right[f];
            default:
                return NONE;
        }
    }

    public int clear() {
        int before = structure.linkCount;
        structure.empty();
        return before;
    }

    public int axiom(int f) throws IllegalArgumentException, IllegalStateException {
        if (!formulas.has(f)) {
            throw new IllegalArgumentException("there is no such formula");
        }
        if (!structure.hasRoomFor(AXIOM) || !formulas.canHoldDual(f)) {
            throw new IllegalStateException("there is no room for an axiom or the dual");
        }
        return structure.addAxiom(f, formulas.obtainDual(f));
    }

    public int link(int left, int right, boolean tensor) throws IllegalArgumentException, IllegalStateException {
        if (!structure.isFree(left) || !structure.isFree(right) || left == right) {
            throw new IllegalArgumentException("these are not two free edges");
        }
        int kind = tensor ? TENSOR : PAR;
        int leftType = structure.formulaOf[left];
        int rightType = structure.formulaOf[right];
        if (!structure.hasRoomFor(kind) || !formulas.canHold(kind, leftType, rightType)) {
            throw new IllegalStateException("there is no room for a link or its formula");
        }
        return structure.addJoin(kind, left, right, formulas.obtain(kind, leftType, rightType));
    }

    public int cut(int left, int right) throws IllegalArgumentException, IllegalStateException {
        if (!structure.isFree(left) || !structure.isFree(right)
                || formulas.dualOf[structure.formulaOf[left]] != structure.formulaOf[right]) {
            throw new IllegalArgumentException("these are not two free edges of dual formulas");
        }
        if (!structure.hasRoomFor(CUT)) {
            throw new IllegalStateException("there is no room for a cut");
        }
        return structure.addCut(left, right);
    }

    public int conclude(int edge) {
        return structure.isFree(edge) ? structure.nameEdge(edge) : NONE;
    }

    public int look(int link, int what) {
        if (!structure.hasLink(link)) {
            return NONE;
        }
        switch (what) {
            case 0:
                return structure.kind[link];
            case 1:
                return structure.left[link];
            case 2:
                return structure.right[link];
            case 3:
                return structure.edge[link];
            default:
                return NONE;
        }
    }

    public int type(int edge) {
        return structure.hasEdge(edge) ? structure.formulaOf[edge] : NONE;
    }

    public int conclusion(int i) {
        return i >= 0 && i < structure.conclusionCount ? structure.named[i] : NONE;
    }

    public int links() {
        return structure.linkCount;
    }

    public int judge() {
        return switchings.weigh(structure);
    }

    public int fault() {
        switchings.weigh(structure);
        return switchings.faulty;
    }

    public int cuts() {
        return structure.cutCount;
    }

    public boolean reduce(int c) {
        int cut = structure.cutAt(c);
        return cut != NONE && structure.reduceCut(cut);
    }

    public int normalise(int pick) {
        if (pick < 0 || switchings.weigh(structure) != NET) {
            return NONE;
        }
        spare.copyFrom(structure);
        int steps = 0;
        // Each step leaves fewer links than it found, so the bound is never what ends the loop.
        while (structure.cutCount > 0 && steps < MAX_LINKS_AT_ONCE) {
            if (!structure.reduceCut(structure.cutAt(pick % structure.cutCount))) {
                structure.copyFrom(spare);
                return NONE;
            }
            steps++;
        }
        return steps;
    }

    public void keep() {
        kept.copyFrom(structure);
    }

    public boolean same() {
        return switchings.weigh(structure) == NET
                && switchings.weigh(kept) == NET
                && likeness.holds(structure, kept);
    }

    public int rule(int i) {
        if (i < 0 || i >= structure.linkCount || switchings.weigh(structure) != NET) {
            return NONE;
        }
        proof.read(structure);
        return proof.row[i];
    }

    public int linkings(int f) {
        return linkingSearch.countFor(formulas, f);
    }

    public int partner(int f, int i, int k) {
        if (i < 0 || i >= linkingSearch.countFor(formulas, f) || k < 0 || k >= formulas.occurrences[f]) {
            return NONE;
        }
        return linkingSearch.foundPartner(i, k);
    }

    public int build(int f, int i) {
        if (i < 0 || i >= linkingSearch.countFor(formulas, f)) {
            return NONE;
        }
        linkingSearch.assembleFound(formulas, i, structure);
        return structure.linkCount;
    }

    /** All formulas so far; the parts of each have lesser numbers than it has itself. */
    private static final class Formulas {
        final int[] kind = new int[MAX_FORMULAS];
        /** The left formula, or an atom's letter. */
        final int[] left = new int[MAX_FORMULAS];
        /** The right formula, or 1 for a plain atom and 0 for another one. */
        final int[] right = new int[MAX_FORMULAS];
        /** The number of the dual, NONE as long as that is not among the formulas. */
        final int[] dualOf = new int[MAX_FORMULAS];
        /** How many occurrences; all that are too many count as one too many, for they may be 2^79. */
        final int[] occurrences = new int[MAX_FORMULAS];
        private final boolean[] isPart = new boolean[MAX_FORMULAS];
        private final int[] pending = new int[MAX_FORMULAS];
        int count = 0;

        boolean has(int f) {
            return f >= 0 && f < count;
        }

        boolean canHold(int ofKind, int l, int r) {
            return count < MAX_FORMULAS || find(ofKind, l, r) != NONE;
        }

        int obtain(int ofKind, int l, int r) {
            int f = find(ofKind, l, r);
            return f != NONE ? f : add(ofKind, l, r);
        }

        boolean canHoldDual(int f) {
            return count + missingDuals(f) <= MAX_FORMULAS;
        }

        /** The dual, made with all that it needs in the order in which a walk leaves the parts. */
        int obtainDual(int f) {
            int depth = 0;
            pending[0] = f;
            // A formula waits once at most, and costs one turn to come and one to go.
            for (int turn = 0; turn < 2 * MAX_FORMULAS && depth >= 0; turn++) {
                int top = pending[depth];
                int part = partWithoutDual(top);
                if (part != NONE) {
                    depth++;
                    pending[depth] = part;
                } else {
                    if (dualOf[top] == NONE) {
                        addDual(top);
                    }
                    depth--;
                }
            }
            return dualOf[f];
        }

        private int find(int ofKind, int l, int r) {
            for (int f = 0; f < count; f++) {
                if (kind[f] == ofKind && left[f] == l && right[f] == r) {
                    return f;
                }
            }
            return NONE;
        }

        private int add(int ofKind, int l, int r) {
            int f = count;
            count++;
            kind[f] = ofKind;
            left[f] = l;
            right[f] = r;
            occurrences[f] = ofKind == ATOM
                    ? 1
                    : Math.min(occurrences[l] + occurrences[r], MAX_OCCURRENCES + 1);
            dualOf[f] = findDual(f);
            if (dualOf[f] != NONE) {
                dualOf[dualOf[f]] = f;
            }
            return f;
        }

        /** A dual that is there has its parts there, so that their numbers are enough to find it. */
        private int findDual(int f) {
            if (kind[f] == ATOM) {
                return find(ATOM, left[f], 1 - right[f]);
            }
            int l = dualOf[left[f]];
            int r = dualOf[right[f]];
            return l == NONE || r == NONE ? NONE : find(otherKind(kind[f]), l, r);
        }

        private void addDual(int f) {
            if (kind[f] == ATOM) {
                add(ATOM, left[f], 1 - right[f]);
            } else {
                add(otherKind(kind[f]), dualOf[left[f]], dualOf[right[f]]);
            }
        }

        private int partWithoutDual(int f) {
            if (kind[f] == ATOM) {
                return NONE;
            }
            if (dualOf[left[f]] == NONE) {
                return left[f];
            }
            return dualOf[right[f]] == NONE ? right[f] : NONE;
        }

        /** Different formulas have different duals, so each part without one asks for one more. */
        private int missingDuals(int f) {
            for (int g = 0; g < f; g++) {
                isPart[g] = false;
            }
            isPart[f] = true;
            int missing = 0;
            for (int g = f; g >= 0; g--) {
                if (isPart[g]) {
                    if (dualOf[g] == NONE) {
                        missing++;
                    }
                    if (kind[g] != ATOM) {
                        isPart[left[g]] = true;
                        isPart[right[g]] = true;
                    }
                }
            }
            return missing;
        }

        private static int otherKind(int tensorOrPar) {
            return tensorOrPar == TENSOR ? PAR : TENSOR;
        }
    }

    /** Links and edges by their numbers; rows reach only as far as links and edges were made. */
    private static final class Structure {
        /** The kind of a link, NONE when it is gone. */
        final int[] kind = new int[MAX_LINKS];
        /** The left premise, or an axiom's first edge. */
        final int[] left = new int[MAX_LINKS];
        /** The right premise, or an axiom's second edge. */
        final int[] right = new int[MAX_LINKS];
        /** The edge of a tensor or par link, NONE for other ones. */
        final int[] edge = new int[MAX_LINKS];
        /** The formula of an edge, NONE when it is gone. */
        final int[] formulaOf = new int[MAX_EDGES];
        /** The link that an edge comes from. */
        final int[] source = new int[MAX_EDGES];
        /** The link whose premise an edge is, or NONE. */
        final int[] user = new int[MAX_EDGES];
        /** The number of an edge as a conclusion, or NONE. */
        final int[] nameOf = new int[MAX_EDGES];
        /** The edges that are named, by their numbers as conclusions. */
        final int[] named = new int[MAX_EDGES];
        int linksMade = 0;
        int edgesMade = 0;
        int linkCount = 0;
        int parCount = 0;
        int cutCount = 0;
        int conclusionCount = 0;

        void empty() {
            linksMade = 0;
            edgesMade = 0;
            linkCount = 0;
            parCount = 0;
            cutCount = 0;
            conclusionCount = 0;
        }

        void copyFrom(Structure other) {
            System.arraycopy(other.kind, 0, kind, 0, other.linksMade);
            System.arraycopy(other.left, 0, left, 0, other.linksMade);
            System.arraycopy(other.right, 0, right, 0, other.linksMade);
            System.arraycopy(other.edge, 0, edge, 0, other.linksMade);
            System.arraycopy(other.formulaOf, 0, formulaOf, 0, other.edgesMade);
            System.arraycopy(other.source, 0, source, 0, other.edgesMade);
            System.arraycopy(other.user, 0, user, 0, other.edgesMade);
            System.arraycopy(other.nameOf, 0, nameOf, 0, other.edgesMade);
            System.arraycopy(other.named, 0, named, 0, other.conclusionCount);
            linksMade = other.linksMade;
            edgesMade = other.edgesMade;
            linkCount = other.linkCount;
            parCount = other.parCount;
            cutCount = other.cutCount;
            conclusionCount = other.conclusionCount;
        }

        boolean hasLink(int link) {
            return link >= 0 && link < linksMade && kind[link] != NONE;
        }

        boolean hasEdge(int e) {
            return e >= 0 && e < edgesMade && formulaOf[e] != NONE;
        }

        boolean isFree(int e) {
            return hasEdge(e) && user[e] == NONE && nameOf[e] == NONE;
        }

        boolean isComplete() {
            for (int e = 0; e < edgesMade; e++) {
                if (isFree(e)) {
                    return false;
                }
            }
            return linkCount > 0;
        }

        boolean hasRoomFor(int ofKind) {
            int newEdges = ofKind == AXIOM ? 2 : ofKind == CUT ? 0 : 1;
            return linksMade < MAX_LINKS
                    && linkCount < MAX_LINKS_AT_ONCE
                    && edgesMade + newEdges <= MAX_EDGES
                    && (ofKind != PAR || parCount < MAX_PARS_AT_ONCE);
        }

        int addAxiom(int f, int dual) {
            int link = addLink(AXIOM);
            left[link] = addEdge(f, link);
            right[link] = addEdge(dual, link);
            return link;
        }

        int addJoin(int ofKind, int l, int r, int f) {
            int link = addLink(ofKind);
            takePremises(link, l, r);
            edge[link] = addEdge(f, link);
            if (ofKind == PAR) {
                parCount++;
            }
            return link;
        }

        int addCut(int l, int r) {
            int link = addLink(CUT);
            takePremises(link, l, r);
            cutCount++;
            return link;
        }

        int nameEdge(int e) {
            int name = conclusionCount;
            conclusionCount++;
            nameOf[e] = name;
            named[name] = e;
            return name;
        }

        int cutAt(int c) {
            int before = 0;
            for (int link = 0; link < linksMade; link++) {
                if (kind[link] == CUT) {
                    if (before == c) {
                        return link;
                    }
                    before++;
                }
            }
            return NONE;
        }

        boolean reduceCut(int cut) {
            int l = left[cut];
            int r = right[cut];
            if (source[l] == source[r]) {
                return false;
            }
            if (kind[source[l]] == AXIOM) {
                passAxiom(cut, l, r);
                return true;
            }
            if (kind[source[r]] == AXIOM) {
                passAxiom(cut, r, l);
                return true;
            }
            return splitCut(cut, l, r);
        }

        private int addLink(int ofKind) {
            int link = linksMade;
            linksMade++;
            linkCount++;
            kind[link] = ofKind;
            edge[link] = NONE;
            return link;
        }

        private int addEdge(int f, int from) {
            int e = edgesMade;
            edgesMade++;
            formulaOf[e] = f;
            source[e] = from;
            user[e] = NONE;
            nameOf[e] = NONE;
            return e;
        }

        private void takePremises(int link, int l, int r) {
            left[link] = l;
            right[link] = r;
            user[l] = link;
            user[r] = link;
        }

        private void passAxiom(int cut, int ofAxiom, int staying) {
            int axiom = source[ofAxiom];
            int other = left[axiom] == ofAxiom ? right[axiom] : left[axiom];
            takePlace(staying, other);
            removeLink(axiom);
            removeLink(cut);
            formulaOf[ofAxiom] = NONE;
            formulaOf[other] = NONE;
        }

        private void takePlace(int staying, int leaving) {
            int place = user[leaving];
            user[staying] = place;
            if (place != NONE) {
                if (left[place] == leaving) {
                    left[place] = staying;
                } else {
                    right[place] = staying;
                }
            }
            nameOf[staying] = nameOf[leaving];
            if (nameOf[staying] != NONE) {
                named[nameOf[staying]] = staying;
            }
        }

        private boolean splitCut(int cut, int l, int r) {
            if (linksMade + 2 > MAX_LINKS) {
                return false;
            }
            int above = source[l];
            int facing = source[r];
            removeLink(above);
            removeLink(facing);
            removeLink(cut);
            formulaOf[l] = NONE;
            formulaOf[r] = NONE;
            addCut(left[above], left[facing]);
            addCut(right[above], right[facing]);
            return true;
        }

        private void removeLink(int link) {
            if (kind[link] == PAR) {
                parCount--;
            }
            if (kind[link] == CUT) {
                cutCount--;
            }
            kind[link] = NONE;
            linkCount--;
        }
    }

    /**
     * Goes through all switchings by their numbers. Level k holds the graph in which the par links
     * from the k-th on have chosen, so that the next switching only redoes the levels that change.
     */
    private static final class Switchings {
        private final int[][] parent = new int[MAX_PARS_AT_ONCE + 1][MAX_LINKS];
        private final int[] pieces = new int[MAX_PARS_AT_ONCE + 1];
        private final boolean[] cyclic = new boolean[MAX_PARS_AT_ONCE + 1];
        private final int[] pars = new int[MAX_PARS_AT_ONCE];
        /** The switching that tells why the last structure is no net, or NONE. */
        int faulty = NONE;

        int weigh(Structure s) {
            faulty = NONE;
            if (!s.isComplete()) {
                return INCOMPLETE;
            }
            joinWithoutPars(s);
            int firstLoose = NONE;
            for (int switching = 0; switching < 1 << s.parCount; switching++) {
                for (int k = lastChanged(switching, s.parCount); k >= 0; k--) {
                    choose(s, k, (switching >> k & 1) == 1);
                }
                if (cyclic[0]) {
                    faulty = switching;
                    return CYCLIC;
                }
                if (pieces[0] > 1 && firstLoose == NONE) {
                    firstLoose = switching;
                }
            }
            faulty = firstLoose;
            return firstLoose == NONE ? NET : LOOSE;
        }

        private void joinWithoutPars(Structure s) {
            int level = s.parCount;
            int parsSeen = 0;
            pieces[level] = s.linkCount;
            cyclic[level] = false;
            for (int link = 0; link < s.linksMade; link++) {
                parent[level][link] = link;
            }
            for (int link = 0; link < s.linksMade; link++) {
                if (s.kind[link] == TENSOR || s.kind[link] == CUT) {
                    join(level, s.source[s.left[link]], link);
                    join(level, s.source[s.right[link]], link);
                } else if (s.kind[link] == PAR) {
                    pars[parsSeen] = link;
                    parsSeen++;
                }
            }
        }

        /** Counting up by one changes the bits up to the lowest one that is set then. */
        private static int lastChanged(int switching, int parCount) {
            for (int k = 0; k < parCount; k++) {
                if ((switching >> k & 1) == 1) {
                    return k;
                }
            }
            return parCount - 1;
        }

        private void choose(Structure s, int k, boolean rightOne) {
            System.arraycopy(parent[k + 1], 0, parent[k], 0, s.linksMade);
            pieces[k] = pieces[k + 1];
            cyclic[k] = cyclic[k + 1];
            int par = pars[k];
            join(k, s.source[rightOne ? s.right[par] : s.left[par]], par);
        }

        private void join(int level, int from, int to) {
            int a = rootOf(parent[level], from);
            int b = rootOf(parent[level], to);
            if (a == b) {
                cyclic[level] = true;
            } else {
                parent[level][a] = b;
                pieces[level]--;
            }
        }

        private static int rootOf(int[] parents, int link) {
            int root = link;
            for (int up = 0; up < MAX_LINKS && parents[root] != root; up++) {
                root = parents[root];
            }
            return root;
        }
    }

    /** Reads a net as a row of rules; a piece of it is a set of links, bit by link number. */
    private static final class Proof {
        final int[] row = new int[MAX_LINKS_AT_ONCE];
        private final long[] waiting = new long[MAX_LINKS_AT_ONCE + 1];
        private final int[] queue = new int[MAX_LINKS_AT_ONCE];
        private int queued = 0;
        private long reached = 0;

        void read(Structure s) {
            int pieces = 1;
            waiting[0] = allLinks(s);
            for (int i = 0; i < s.linkCount && pieces > 0; i++) {
                pieces--;
                long piece = waiting[pieces];
                int link = lastRule(s, piece);
                row[i] = link;
                long rest = piece & ~bit(link);
                if (s.kind[link] == PAR) {
                    waiting[pieces] = rest;
                    pieces++;
                } else if (s.kind[link] != AXIOM) {
                    long leftPiece = reach(s, s.source[s.left[link]], rest);
                    waiting[pieces] = rest & ~leftPiece;
                    waiting[pieces + 1] = leftPiece;
                    pieces += 2;
                }
            }
        }

        private static long allLinks(Structure s) {
            long all = 0;
            for (int link = 0; link < s.linksMade; link++) {
                if (s.kind[link] != NONE) {
                    all |= bit(link);
                }
            }
            return all;
        }

        private int lastRule(Structure s, long piece) {
            int axiom = 0;
            int splitting = NONE;
            for (int link = 0; link < s.linksMade; link++) {
                if (isIn(piece, link)) {
                    if (s.kind[link] == PAR && isLowest(s, link, piece)) {
                        return link;
                    }
                    if (s.kind[link] == AXIOM) {
                        axiom = link;
                    } else if (splitting == NONE && s.kind[link] != PAR && splits(s, link, piece)) {
                        splitting = link;
                    }
                }
            }
            return splitting != NONE ? splitting : axiom;
        }

        private static boolean isLowest(Structure s, int link, long piece) {
            int e = s.edge[link];
            return e == NONE || s.user[e] == NONE || !isIn(piece, s.user[e]);
        }

        private boolean splits(Structure s, int link, long piece) {
            if (!isLowest(s, link, piece)) {
                return false;
            }
            long leftPiece = reach(s, s.source[s.left[link]], piece & ~bit(link));
            return !isIn(leftPiece, s.source[s.right[link]]);
        }

        private long reach(Structure s, int from, long within) {
            reached = 0;
            queued = 0;
            enter(from, within);
            for (int i = 0; i < queued && i < MAX_LINKS_AT_ONCE; i++) {
                int link = queue[i];
                if (s.kind[link] == AXIOM) {
                    enter(s.user[s.left[link]], within);
                    enter(s.user[s.right[link]], within);
                } else {
                    enter(s.source[s.left[link]], within);
                    enter(s.source[s.right[link]], within);
                    if (s.edge[link] != NONE) {
                        enter(s.user[s.edge[link]], within);
                    }
                }
            }
            return reached;
        }

        private void enter(int link, long within) {
            if (link != NONE && isIn(within, link) && !isIn(reached, link)) {
                reached |= bit(link);
                queue[queued] = link;
                queued++;
            }
        }

        private static long bit(int link) {
            return 1L << link;
        }

        private static boolean isIn(long set, int link) {
            return (set >> link & 1L) == 1L;
        }
    }

    /**
     * Lays one net over another one. Nets are connected and have a conclusion, so all follows from
     * laying conclusion 0 over conclusion 0; with as many links, no two then share a counterpart.
     */
    private static final class Likeness {
        private final int[] edgeTo = new int[MAX_EDGES];
        private final int[] linkTo = new int[MAX_LINKS];
        private final int[] queue = new int[MAX_EDGES];
        private int queued = 0;

        boolean holds(Structure a, Structure b) {
            if (a.linkCount != b.linkCount || a.conclusionCount != b.conclusionCount
                    || a.conclusionCount == 0) {
                return false;
            }
            Arrays.fill(edgeTo, NONE);
            Arrays.fill(linkTo, NONE);
            queued = 0;
            boolean alike = layEdge(a, a.named[0], b, b.named[0]);
            for (int i = 0; alike && i < queued && i < MAX_EDGES; i++) {
                int e = queue[i];
                int f = edgeTo[e];
                alike = layLink(a, a.source[e], b, b.source[f])
                        && layLink(a, a.user[e], b, b.user[f]);
            }
            return alike;
        }

        private boolean layEdge(Structure a, int e, Structure b, int f) {
            if (edgeTo[e] != NONE) {
                return edgeTo[e] == f;
            }
            if (a.formulaOf[e] != b.formulaOf[f] || a.nameOf[e] != b.nameOf[f]) {
                return false;
            }
            edgeTo[e] = f;
            queue[queued] = e;
            queued++;
            return true;
        }

        private boolean layLink(Structure a, int l, Structure b, int m) {
            if (l == NONE || m == NONE) {
                return l == m;
            }
            if (linkTo[l] != NONE) {
                return linkTo[l] == m;
            }
            if (a.kind[l] != b.kind[m]) {
                return false;
            }
            linkTo[l] = m;
            boolean crossed = a.kind[l] == AXIOM && a.formulaOf[a.left[l]] != b.formulaOf[b.left[m]];
            return layEdge(a, a.left[l], b, crossed ? b.right[m] : b.left[m])
                    && layEdge(a, a.right[l], b, crossed ? b.left[m] : b.right[m])
                    && (a.edge[l] == NONE || layEdge(a, a.edge[l], b, b.edge[m]));
        }
    }

    /** Finds the linkings of a formula, and keeps those of the one that was asked for last. */
    private static final class LinkingSearch {
        private final Structure trial = new Structure();
        private final Switchings switchings = new Switchings();
        /** The formula's parts, left part, right part, then the whole. */
        private final int[] parts = new int[2 * MAX_OCCURRENCES];
        private final int[] atoms = new int[MAX_OCCURRENCES];
        private final int[] partners = new int[MAX_OCCURRENCES];
        private final int[] atomEdges = new int[MAX_OCCURRENCES];
        private final int[] open = new int[MAX_OCCURRENCES];
        private final int[] found = new int[MAX_LINKINGS * MAX_OCCURRENCES];
        private int asked = NONE;
        private int partCount = 0;
        private int atomCount = 0;
        private int tensorCount = 0;
        private int foundCount = 0;

        /** NONE when there is no such formula, or it has too many occurrences to be walked through. */
        int countFor(Formulas formulas, int f) {
            if (!formulas.has(f) || formulas.occurrences[f] > MAX_OCCURRENCES) {
                return NONE;
            }
            if (f != asked) {
                asked = f;
                partCount = 0;
                atomCount = 0;
                tensorCount = 0;
                foundCount = 0;
                listParts(formulas, f, 0);
                Arrays.fill(partners, NONE);
                if (canBeTree()) {
                    pairUp(formulas, 0);
                }
            }
            return foundCount;
        }

        int foundPartner(int i, int k) {
            return found[i * MAX_OCCURRENCES + k];
        }

        void assembleFound(Formulas formulas, int i, Structure s) {
            System.arraycopy(found, i * MAX_OCCURRENCES, partners, 0, MAX_OCCURRENCES);
            assemble(formulas, s);
        }

        private void listParts(Formulas formulas, int f, int depth) {
            if (depth >= MAX_OCCURRENCES) {
                return;
            }
            if (formulas.kind[f] == ATOM) {
                atoms[atomCount] = f;
                atomCount++;
            } else {
                listParts(formulas, formulas.left[f], depth + 1);
                listParts(formulas, formulas.right[f], depth + 1);
                if (formulas.kind[f] == TENSOR) {
                    tensorCount++;
                }
            }
            parts[partCount] = f;
            partCount++;
        }

        /**
         * Every switching's graph has n / 2 axioms and n - 1 other links as its points, and two
         * joints for each tensor, one for each par: a tree, with one joint less than points, has
         * n / 2 - 1 tensors. All other formulas are done without a trial.
         */
        private boolean canBeTree() {
            return atomCount % 2 == 0 && tensorCount == atomCount / 2 - 1;
        }

        private void pairUp(Formulas formulas, int pairs) {
            if (2 * pairs >= atomCount) {
                assemble(formulas, trial);
                if (switchings.weigh(trial) == NET && foundCount < MAX_LINKINGS) {
                    System.arraycopy(partners, 0, found, foundCount * MAX_OCCURRENCES, MAX_OCCURRENCES);
                    foundCount++;
                }
                return;
            }
            int first = firstAlone();
            for (int second = first + 1; second < atomCount; second++) {
                if (partners[second] == NONE && formulas.dualOf[atoms[first]] == atoms[second]) {
                    partners[first] = second;
                    partners[second] = first;
                    pairUp(formulas, pairs + 1);
                    partners[first] = NONE;
                    partners[second] = NONE;
                }
            }
        }

        private int firstAlone() {
            int k = 0;
            while (k < atomCount - 1 && partners[k] != NONE) {
                k++;
            }
            return k;
        }

        private void assemble(Formulas formulas, Structure s) {
            s.empty();
            for (int k = 0; k < atomCount; k++) {
                if (partners[k] > k) {
                    int axiom = s.addAxiom(atoms[k], atoms[partners[k]]);
                    atomEdges[k] = s.left[axiom];
                    atomEdges[partners[k]] = s.right[axiom];
                }
            }
            int atomsSeen = 0;
            int opened = 0;
            for (int i = 0; i < partCount; i++) {
                int f = parts[i];
                if (formulas.kind[f] == ATOM) {
                    open[opened] = atomEdges[atomsSeen];
                    opened++;
                    atomsSeen++;
                } else {
                    opened--;
                    int join = s.addJoin(formulas.kind[f], open[opened - 1], open[opened], f);
                    open[opened - 1] = s.edge[join];
                }
            }
            s.nameEdge(open[0]);
        }
    }
}
