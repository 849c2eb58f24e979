import java.util.Arrays;

/** Paper that is folded flat: strips, creases round one corner, maps of squares. */
public final class CreaseFlat {
    public static final int NONE = -1;
    public static final int UNKNOWN = -101, OUTSIDE = -102, STATE = -103, ROOM = -104;

    private static final int MOST_PAPERS = 30;
    private static final int MOST_FACES = 9;
    /** A map of 3 by 3 squares has the most. */
    private static final int MOST_CREASES = 12;
    /** A line is a crease of a strip, or all creases between two columns, or two rows, of a map. */
    private static final int MOST_LINES = 8;
    private static final int MOST_LENGTH = 1000;
    /** The orders of nine faces, were no rule to forbid any. */
    private static final int MOST_ORDERS = 362880;

    private static final int STRIP = 0, CORNER = 1, MAP = 2;
    private static final int ANY = 0, MOUNTAIN = 1, VALLEY = 2;
    private static final int COLUMNS = 0, ROWS = 1;

    private final Paper[] papers = new Paper[MOST_PAPERS];
    private int paperCount = 0;

    private final Pile pile = new Pile();
    private final Pile otherPile = new Pile();

    /** The paper whose order was told last; null before the first one. */
    private Paper toldPaper = null;
    private final int[] toldFaces = new int[MOST_FACES];
    private final int[] toldHeights = new int[MOST_FACES];

    private final int[] readHeights = new int[MOST_FACES];
    /** A bit for each way in which twelve creases can be turned. */
    private final long[] met = new long[1 << (MOST_CREASES - 6)];

    private final int[] clashing = new int[MOST_CREASES];
    private int clashCount = 0;

    private final Lay lay = new Lay();
    private final Ways ways = new Ways();
    private final int[] toldSteps = new int[MOST_LINES];
    private int stepCount = 0;

    public CreaseFlat() {
    }

    // ---- papers

    public int strip(int faces) {
        return faces < 1 || faces > MOST_FACES ? OUTSIDE : addPaper(STRIP, 1, faces);
    }

    public int corner(int faces) {
        return faces < 2 || faces > MOST_FACES ? OUTSIDE : addPaper(CORNER, 1, faces);
    }

    public int map(int rows, int columns) {
        if (rows < 1 || columns < 1 || rows > MOST_FACES || columns > MOST_FACES) {
            return OUTSIDE;
        }
        return rows * columns > MOST_FACES ? OUTSIDE : addPaper(MAP, rows, columns);
    }

    public int length(int paper, int face, int v) {
        Paper p = find(paper);
        if (p == null || !p.hasFace(face)) {
            return UNKNOWN;
        }
        if (v < 1 || v > MOST_LENGTH) {
            return OUTSIDE;
        }
        if (p.kind == MAP) {
            return STATE;
        }
        int before = p.lengths[face];
        p.lengths[face] = v;
        p.measure();
        return before;
    }

    public int mark(int paper, int crease, int m) {
        Paper p = find(paper);
        if (p == null || !p.hasCrease(crease)) {
            return UNKNOWN;
        }
        if (m < ANY || m > VALLEY) {
            return OUTSIDE;
        }
        int before = p.marks[crease];
        p.marks[crease] = m;
        return before;
    }

    public int about(int paper, int what) {
        Paper p = find(paper);
        if (p == null) {
            return UNKNOWN;
        }
        switch (what) {
            case 0: return p.kind;
            case 1: return p.faces;
            case 2: return p.creases;
            case 3: return Integer.bitCount(p.marked(MOUNTAIN));
            case 4: return Integer.bitCount(p.marked(VALLEY));
            case 5: return p.kind == CORNER ? p.edges[p.faces] : 0;
            default: return OUTSIDE;
        }
    }

    public int crease(int paper, int crease, int what) {
        Paper p = find(paper);
        if (p == null || !p.hasCrease(crease)) {
            return UNKNOWN;
        }
        switch (what) {
            case 0: return p.firsts[crease];
            case 1: return p.seconds[crease];
            case 2: return p.marks[crease];
            case 3: return p.places[crease];
            default: return OUTSIDE;
        }
    }

    // ---- orders

    public int judge(int paper) {
        Paper p = find(paper);
        if (p == null) {
            return UNKNOWN;
        }
        pile.begin(p);
        if (!pile.next()) {
            return 0;
        }
        toldPaper = p;
        System.arraycopy(pile.stack, 0, toldFaces, 0, MOST_FACES);
        System.arraycopy(pile.heights, 0, toldHeights, 0, MOST_FACES);
        return 1;
    }

    public int layer(int height) {
        if (toldPaper == null) {
            return STATE;
        }
        return height < 0 || height >= toldPaper.faces ? OUTSIDE : toldFaces[height];
    }

    public int turned(int crease) {
        if (toldPaper == null) {
            return STATE;
        }
        return toldPaper.hasCrease(crease) ? toldPaper.becomes(crease, toldHeights) : UNKNOWN;
    }

    public int orders(int paper) {
        Paper p = find(paper);
        if (p == null) {
            return UNKNOWN;
        }
        pile.begin(p);
        int count = 0;
        while (count < MOST_ORDERS && pile.next()) {
            count++;
        }
        return count;
    }

    public long order(int paper, int k) {
        Paper p = find(paper);
        if (p == null) {
            return UNKNOWN;
        }
        if (k < 0 || k >= MOST_ORDERS) {
            return OUTSIDE;
        }
        pile.begin(p);
        for (int i = 0; i <= k; i++) {
            if (!pile.next()) {
                return OUTSIDE;
            }
        }
        return pile.asNumber();
    }

    public int check(int paper, long order) {
        Paper p = find(paper);
        if (p == null) {
            return UNKNOWN;
        }
        if (!readOrder(p.faces, order)) {
            return OUTSIDE;
        }
        if (p.isUneven()) {
            return 40000;
        }
        int broken = p.brokenMark(readHeights);
        if (broken == 0) {
            broken = p.brokenThrough(readHeights);
        }
        return broken == 0 ? p.brokenAcross(readHeights) : broken;
    }

    public int forced(int paper, int crease) {
        Paper p = find(paper);
        if (p == null || !p.hasCrease(crease)) {
            return UNKNOWN;
        }
        return (canBecome(p, crease, MOUNTAIN) ? MOUNTAIN : 0) + (canBecome(p, crease, VALLEY) ? VALLEY : 0);
    }

    public int above(int paper, int one, int other) {
        Paper p = find(paper);
        if (p == null || !p.hasFace(one) || !p.hasFace(other)) {
            return UNKNOWN;
        }
        if (one == other) {
            return 2;
        }
        boolean over = canLieBelow(p, other, one);
        boolean under = canLieBelow(p, one, other);
        if (over == under) {
            return over ? 0 : 2;
        }
        return over ? 1 : -1;
    }

    public int alike(int one, int other) {
        Paper p = find(one);
        Paper q = find(other);
        if (p == null || q == null) {
            return UNKNOWN;
        }
        return p.faces == q.faces && allowTheSame(p, q) ? 1 : 0;
    }

    // ---- marks

    public int foldings(int paper) {
        Paper p = find(paper);
        if (p == null) {
            return UNKNOWN;
        }
        Arrays.fill(met, 0L);
        pile.begin(p);
        int count = 0;
        for (int i = 0; i < MOST_ORDERS && pile.next(); i++) {
            // An order turns every crease one way, so it stands for just one way to mark them.
            if (isNew(p.valleysIn(pile.heights))) {
                count++;
            }
        }
        return count;
    }

    public int clash(int paper) {
        Paper p = find(paper);
        if (p == null) {
            return UNKNOWN;
        }
        clashCount = 0;
        int kept = p.marked(MOUNTAIN) | p.marked(VALLEY);
        if (allowsSome(p, kept)) {
            return 0;
        }
        for (int c = p.creases - 1; c >= 0; c--) {
            int fewer = kept & ~(1 << c);
            if (fewer != kept && !allowsSome(p, fewer)) {
                kept = fewer;
            }
        }
        for (int c = 0; c < p.creases; c++) {
            if (has(kept, c)) {
                clashing[clashCount] = c;
                clashCount++;
            }
        }
        return clashCount;
    }

    public int inClash(int k) {
        return k < 0 || k >= clashCount ? NONE : clashing[k];
    }

    // ---- simple folds

    public int simple(int paper) {
        Paper p = find(paper);
        if (p == null) {
            return UNKNOWN;
        }
        if (p.kind == CORNER) {
            return STATE;
        }
        ways.explore(p, lay);
        if (ways.fewest[0] > MOST_LINES) {
            return NONE;
        }
        stepCount = ways.trace(p.allLines(), toldSteps);
        return stepCount;
    }

    public int step(int i) {
        return i < 0 || i >= stepCount ? STATE : toldSteps[i];
    }

    public int fold(int paper, int step) {
        Paper p = find(paper);
        if (p == null) {
            return UNKNOWN;
        }
        if (p.kind == CORNER) {
            return STATE;
        }
        lay.put(p, p.folded);
        int lines = lay.linesFoldedBy(p, step);
        p.folded |= lines;
        return p.creasesOn(lines);
    }

    public int flatten(int paper) {
        Paper p = find(paper);
        if (p == null) {
            return UNKNOWN;
        }
        if (p.kind == CORNER) {
            return STATE;
        }
        int count = p.creasesOn(p.folded);
        p.folded = 0;
        return count;
    }

    public int lies(int paper, int face, int what) {
        Paper p = find(paper);
        if (p == null || !p.hasFace(face)) {
            return UNKNOWN;
        }
        if (what < 0 || what > 3) {
            return OUTSIDE;
        }
        if (p.kind == CORNER) {
            return STATE;
        }
        lay.put(p, p.folded);
        switch (what) {
            case 0: return lay.edges[COLUMNS][p.columnOf[face]];
            case 1: return 1 - lay.turns[COLUMNS][p.columnOf[face]];
            case 2: return lay.isFrontUp(p, face) ? 1 : 0;
            default: return lay.edges[ROWS][p.rowOf[face]];
        }
    }

    // ---- what the calls share

    private int addPaper(int kind, int rows, int columns) {
        if (paperCount >= MOST_PAPERS) {
            return ROOM;
        }
        papers[paperCount] = new Paper(kind, rows, columns);
        paperCount++;
        return paperCount - 1;
    }

    private Paper find(int paper) {
        return paper < 0 || paper >= paperCount ? null : papers[paper];
    }

    private static boolean has(int set, int member) {
        return (set >> member & 1) != 0;
    }

    /** Takes an order apart into readHeights; false if it is no row of all faces. */
    private boolean readOrder(int faces, long order) {
        long rest = order;
        int read = 0;
        for (int height = 0; height < faces; height++) {
            int face = (int) (rest % 10);
            rest /= 10;
            if (face < 0 || face >= faces || has(read, face)) {
                return false;
            }
            read |= 1 << face;
            readHeights[face] = height;
        }
        return rest == 0;
    }

    private boolean canBecome(Paper p, int crease, int turn) {
        pile.begin(p);
        pile.demandTurn(crease, turn);
        return pile.next();
    }

    private boolean canLieBelow(Paper p, int lower, int upper) {
        pile.begin(p);
        pile.demandBelow(lower, upper);
        return pile.next();
    }

    /** Whether there is an order if only the marks of these creases count. */
    private boolean allowsSome(Paper p, int counting) {
        pile.beginWith(p, counting);
        return pile.next();
    }

    /** Both piles go through their orders from the least one on, so the first odd pair tells. */
    private boolean allowTheSame(Paper p, Paper q) {
        pile.begin(p);
        otherPile.begin(q);
        for (int i = 0; i <= MOST_ORDERS; i++) {
            boolean more = pile.next();
            if (more != otherPile.next()) {
                return false;
            }
            if (!more) {
                return true;
            }
            if (pile.asNumber() != otherPile.asNumber()) {
                return false;
            }
        }
        return true;
    }

    /** Whether these valleys are met for the first time in this call. */
    private boolean isNew(int valleys) {
        long bit = 1L << (valleys & 63);
        int word = valleys >> 6;
        if (word < 0 || word >= met.length || (met[word] & bit) != 0) {
            return false;
        }
        met[word] |= bit;
        return true;
    }

    /** A paper with its creases and what the rules say of them; sets are bits of an int. */
    private static final class Paper {
        final int kind;
        final int rows;
        final int columns;
        final int faces;
        int creases = 0;
        final int[] rowOf = new int[MOST_FACES];
        final int[] columnOf = new int[MOST_FACES];
        final int[] lengths = new int[MOST_FACES];
        /** Where each face of a strip or corner begins, when all is folded, and where the last one ends. */
        final int[] edges = new int[MOST_FACES + 1];
        final int[] firsts = new int[MOST_CREASES];
        final int[] seconds = new int[MOST_CREASES];
        final int[] lineOf = new int[MOST_CREASES];
        final int[] marks = new int[MOST_CREASES];
        final int[] places = new int[MOST_CREASES];
        /** Of each crease, the faces that rule THROUGH keeps from between its own. */
        final int[] through = new int[MOST_CREASES];
        /** Of each crease, the creases that rule ACROSS keeps from crossing it. */
        final int[] across = new int[MOST_CREASES];
        /** Of each face, its creases. */
        final int[] touching = new int[MOST_FACES];
        /** The lines that are folded as the paper lies now. */
        int folded = 0;

        Paper(int kind, int rows, int columns) {
            this.kind = kind;
            this.rows = rows;
            this.columns = columns;
            this.faces = rows * columns;
            Arrays.fill(lengths, 1);
            for (int face = 0, r = 0; r < rows; r++) {
                for (int c = 0; c < columns && face < MOST_FACES; c++, face++) {
                    rowOf[face] = r;
                    columnOf[face] = c;
                }
            }
            joinFaces();
            measure();
        }

        private void joinFaces() {
            for (int face = 0; face < faces; face++) {
                if (columnOf[face] + 1 < columns) {
                    join(face, face + 1, columnOf[face]);
                }
            }
            for (int face = 0; face < faces; face++) {
                if (rowOf[face] + 1 < rows) {
                    join(face, face + columns, columns - 1 + rowOf[face]);
                }
            }
            if (kind == CORNER) {
                join(faces - 1, 0, columns - 1);
            }
        }

        private void join(int first, int second, int line) {
            if (creases >= MOST_CREASES) {
                return;
            }
            firsts[creases] = first;
            seconds[creases] = second;
            lineOf[creases] = line;
            touching[first] |= 1 << creases;
            touching[second] |= 1 << creases;
            creases++;
        }

        /** Places depend on lengths, and so do the rules: all is found anew. */
        void measure() {
            for (int face = 0; face < faces; face++) {
                edges[face + 1] = edges[face] + (isFrontUp(face) ? lengths[face] : -lengths[face]);
            }
            for (int c = 0; c < creases; c++) {
                places[c] = kind == MAP ? sideOf(c) : edges[firsts[c] + 1];
            }
            for (int c = 0; c < creases; c++) {
                through[c] = kind == MAP ? 0 : facesOver(c);
                across[c] = rivalsOf(c);
            }
        }

        private int sideOf(int crease) {
            int first = firsts[crease];
            boolean betweenColumns = rowOf[first] == rowOf[seconds[crease]];
            return betweenColumns ? columnOf[first] % 2 : 2 + rowOf[first] % 2;
        }

        private int facesOver(int crease) {
            int over = 0;
            for (int face = 0; face < faces; face++) {
                boolean third = face != firsts[crease] && face != seconds[crease];
                if (third && isBetween(places[crease], edges[face], edges[face + 1])) {
                    over |= 1 << face;
                }
            }
            return over;
        }

        private int rivalsOf(int crease) {
            int rivals = 0;
            for (int c = 0; c < creases; c++) {
                if (c != crease && places[c] == places[crease] && onOneSide(c, crease) && haveFourFaces(c, crease)) {
                    rivals |= 1 << c;
                }
            }
            return rivals;
        }

        /** When all is folded, a face of a strip or corner goes upwards just if its front is up. */
        private boolean onOneSide(int c, int d) {
            return kind == MAP || isFrontUp(firsts[c]) == isFrontUp(firsts[d]);
        }

        private boolean haveFourFaces(int c, int d) {
            boolean firstIsFree = firsts[c] != firsts[d] && firsts[c] != seconds[d];
            return firstIsFree && seconds[c] != firsts[d] && seconds[c] != seconds[d];
        }

        boolean hasFace(int face) {
            return face >= 0 && face < faces;
        }

        boolean hasCrease(int crease) {
            return crease >= 0 && crease < creases;
        }

        /** When all is folded. */
        boolean isFrontUp(int face) {
            return (rowOf[face] + columnOf[face]) % 2 == 0;
        }

        boolean isUneven() {
            return kind == CORNER && (faces % 2 != 0 || edges[faces] != 0);
        }

        int marked(int m) {
            int set = 0;
            for (int c = 0; c < creases; c++) {
                if (marks[c] == m) {
                    set |= 1 << c;
                }
            }
            return set;
        }

        int becomes(int crease, int[] heights) {
            boolean secondIsAbove = heights[seconds[crease]] > heights[firsts[crease]];
            return secondIsAbove == isFrontUp(firsts[crease]) ? VALLEY : MOUNTAIN;
        }

        int valleysIn(int[] heights) {
            int set = 0;
            for (int c = 0; c < creases; c++) {
                if (becomes(c, heights) == VALLEY) {
                    set |= 1 << c;
                }
            }
            return set;
        }

        int brokenMark(int[] heights) {
            for (int c = 0; c < creases; c++) {
                if (marks[c] != ANY && marks[c] != becomes(c, heights)) {
                    return 10000 + 100 * c;
                }
            }
            return 0;
        }

        int brokenThrough(int[] heights) {
            for (int c = 0; c < creases; c++) {
                for (int face = 0; face < faces; face++) {
                    if (has(through[c], face) && liesWithin(face, c, heights)) {
                        return 20000 + 100 * c + face;
                    }
                }
            }
            return 0;
        }

        int brokenAcross(int[] heights) {
            for (int c = 0; c < creases; c++) {
                for (int d = c + 1; d < creases; d++) {
                    if (has(across[c], d) && liesWithin(firsts[d], c, heights) != liesWithin(seconds[d], c, heights)) {
                        return 30000 + 100 * c + d;
                    }
                }
            }
            return 0;
        }

        private boolean liesWithin(int face, int crease, int[] heights) {
            return isBetween(heights[face], heights[firsts[crease]], heights[seconds[crease]]);
        }

        static boolean isBetween(int x, int a, int b) {
            return x > Math.min(a, b) && x < Math.max(a, b);
        }

        int allLines() {
            return (1 << (columns - 1 + rows - 1)) - 1;
        }

        int creasesOn(int lines) {
            int count = 0;
            for (int c = 0; c < creases; c++) {
                if (has(lines, lineOf[c])) {
                    count++;
                }
            }
            return count;
        }
    }

    /** Goes through the allowed orders of a paper from the least one on, by piling face upon face. */
    private static final class Pile {
        /**
         * What next() may do: each of the 986,410 rows of some of nine faces is piled up and taken
         * off once at most.
         */
        private static final int MOST_MOVES = 2000000;

        private Paper paper = null;
        /** The faces from the lowest one on, and the height of each face that is in the pile. */
        final int[] stack = new int[MOST_FACES];
        final int[] heights = new int[MOST_FACES];
        private int size = 0;
        private int inPile = 0;
        /** Of each face, those that must lie below it. */
        private final int[] below = new int[MOST_FACES];
        /** The faces that have such. */
        private int demanding = 0;
        /** By the size of the pile: the creases with just one face in it, and the faces still to be tried on it. */
        private final int[] open = new int[MOST_FACES + 1];
        private final int[] untried = new int[MOST_FACES + 1];
        private boolean begun = false;

        void begin(Paper p) {
            beginWith(p, -1);
        }

        void beginWith(Paper p, int countingMarks) {
            paper = p;
            size = 0;
            inPile = 0;
            open[0] = 0;
            begun = false;
            Arrays.fill(below, 0);
            demanding = 0;
            for (int c = 0; c < p.creases; c++) {
                if (has(countingMarks, c) && p.marks[c] != ANY) {
                    demandTurn(c, p.marks[c]);
                }
            }
        }

        /** To be called before the first next(), as demandBelow is. */
        void demandTurn(int crease, int turn) {
            Paper p = paper;
            if (p == null || !p.hasCrease(crease)) {
                return;
            }
            int first = p.firsts[crease];
            int second = p.seconds[crease];
            if (p.isFrontUp(first) == (turn == VALLEY)) {
                demandBelow(first, second);
            } else {
                demandBelow(second, first);
            }
        }

        void demandBelow(int lower, int upper) {
            if (paper != null && paper.hasFace(lower) && paper.hasFace(upper)) {
                below[upper] |= 1 << lower;
                demanding |= 1 << upper;
            }
        }

        /** Whether there is one order more: then it is in stack and heights. */
        boolean next() {
            Paper p = paper;
            if (p == null) {
                return false;
            }
            if (!begun) {
                begun = true;
                untried[0] = p.isUneven() || demandsClash(p) ? 0 : candidates(p);
            }
            for (int move = 0; move < MOST_MOVES; move++) {
                if (untried[size] != 0) {
                    put(p, leastUntried());
                    if (size == p.faces) {
                        return true;
                    }
                } else if (size > 0) {
                    takeOff();
                } else {
                    return false;
                }
            }
            return false;
        }

        long asNumber() {
            long number = 0;
            for (int height = size - 1; height >= 0; height--) {
                number = number * 10 + stack[height];
            }
            return number;
        }

        /** Whether a face must lie below itself: told at once, what would else take many moves. */
        private boolean demandsClash(Paper p) {
            for (int middle = 0; middle < p.faces; middle++) {
                for (int face = 0; face < p.faces; face++) {
                    if (has(below[face], middle)) {
                        below[face] |= below[middle];
                    }
                }
            }
            for (int face = 0; face < p.faces; face++) {
                if (has(below[face], face)) {
                    return true;
                }
            }
            return false;
        }

        private int leastUntried() {
            int face = 0;
            while (face < MOST_FACES - 1 && !has(untried[size], face)) {
                face++;
            }
            return face;
        }

        private void put(Paper p, int face) {
            untried[size] &= ~(1 << face);
            stack[size] = face;
            heights[face] = size;
            inPile |= 1 << face;
            open[size + 1] = open[size] ^ p.touching[face];
            size++;
            untried[size] = size < p.faces ? candidates(p) : 0;
        }

        private void takeOff() {
            size--;
            inPile &= ~(1 << stack[size]);
        }

        /** The faces that can come next and break no rule with those in the pile. */
        private int candidates(Paper p) {
            int barred = inPile;
            int nowOpen = open[size];
            for (int c = 0; c < p.creases; c++) {
                if ((nowOpen >> c & 1) != 0) {
                    barred |= p.through[c];
                    if ((nowOpen & p.across[c]) != 0) {
                        barred |= barredFromClosing(p, c);
                    }
                }
            }
            int fit = ((1 << p.faces) - 1) & ~barred;
            return (fit & demanding) == 0 ? fit : readyAmong(p, fit);
        }

        /** Of these faces, those that have all in the pile that must lie below them. */
        private int readyAmong(Paper p, int fit) {
            int ready = 0;
            for (int face = 0; face < p.faces; face++) {
                if (has(fit, face) && (below[face] & ~inPile) == 0) {
                    ready |= 1 << face;
                }
            }
            return ready;
        }

        /** Of an open crease the face that is not in the pile, if a crease that must not cross was opened later. */
        private int barredFromClosing(Paper p, int crease) {
            boolean firstLies = has(inPile, p.firsts[crease]);
            int lying = firstLies ? p.firsts[crease] : p.seconds[crease];
            int missing = firstLies ? p.seconds[crease] : p.firsts[crease];
            int openedLater = open[size] & ~open[heights[lying] + 1];
            return (openedLater & p.across[crease]) != 0 ? 1 << missing : 0;
        }
    }

    /** A strip or map as it lies; a strip is held as a map of one row, with columns of its lengths. */
    private static final class Lay {
        private int folded = 0;
        /** Of columns and of rows: where each one begins, and where the last one ends. */
        final int[][] edges = new int[2][MOST_FACES + 1];
        /** Of columns and of rows: 0 if they go upwards, 1 if an odd number of folds has turned them. */
        final int[][] turns = new int[2][MOST_FACES];

        void put(Paper p, int foldedLines) {
            folded = foldedLines;
            for (int axis = COLUMNS; axis <= ROWS; axis++) {
                int turn = 0;
                for (int i = 0; i < bands(p, axis); i++) {
                    if (i > 0 && has(folded, lineBehind(p, axis, i - 1))) {
                        turn = 1 - turn;
                    }
                    // A map's lengths are all 1, and how wide the one row of a strip is does not matter.
                    int size = p.lengths[i];
                    turns[axis][i] = turn;
                    edges[axis][i + 1] = edges[axis][i] + (turn == 0 ? size : -size);
                }
            }
        }

        int bands(Paper p, int axis) {
            return axis == COLUMNS ? p.columns : p.rows;
        }

        /** The line behind a column, or row. */
        int lineBehind(Paper p, int axis, int band) {
            return axis == COLUMNS ? band : p.columns - 1 + band;
        }

        boolean isFrontUp(Paper p, int face) {
            return turns[COLUMNS][p.columnOf[face]] == turns[ROWS][p.rowOf[face]];
        }

        /** The lines that a simple fold folds; none if it cannot be done. */
        int linesFoldedBy(Paper p, int step) {
            int axis = step >> 1 & 1;
            int place = step >> 2;
            boolean under = (step & 1) != 0;
            int lines = unfoldedAt(p, axis, place);
            return isWithinOne(p, axis, place) || !marksAllow(p, lines, under) ? 0 : lines;
        }

        private int unfoldedAt(Paper p, int axis, int place) {
            int lines = 0;
            for (int i = 0; i < bands(p, axis) - 1; i++) {
                int line = lineBehind(p, axis, i);
                if (!has(folded, line) && edges[axis][i + 1] == place) {
                    lines |= 1 << line;
                }
            }
            return lines;
        }

        private boolean isWithinOne(Paper p, int axis, int place) {
            for (int i = 0; i < bands(p, axis); i++) {
                if (Paper.isBetween(place, edges[axis][i], edges[axis][i + 1])) {
                    return true;
                }
            }
            return false;
        }

        private boolean marksAllow(Paper p, int lines, boolean under) {
            for (int c = 0; c < p.creases; c++) {
                if (has(lines, p.lineOf[c]) && p.marks[c] != ANY) {
                    int turn = isFrontUp(p, p.firsts[c]) != under ? VALLEY : MOUNTAIN;
                    if (p.marks[c] != turn) {
                        return false;
                    }
                }
            }
            return true;
        }
    }

    /** The shortest ways of simple folds, from every set of folded lines to all of them. */
    private static final class Ways {
        /** More than any way has folds. */
        private static final int NO_WAY = 1000;

        final int[] fewest = new int[1 << MOST_LINES];
        private final int[] firstSteps = new int[1 << MOST_LINES];
        private final int[] nexts = new int[1 << MOST_LINES];

        /** A fold only adds lines, so a set comes after all that can follow it. */
        void explore(Paper p, Lay lay) {
            int all = Math.min(p.allLines(), fewest.length - 1);
            fewest[all] = 0;
            for (int folded = all - 1; folded >= 0; folded--) {
                fewest[folded] = NO_WAY;
                lay.put(p, folded);
                tryLines(p, COLUMNS, folded, lay);
                tryLines(p, ROWS, folded, lay);
            }
        }

        private void tryLines(Paper p, int axis, int folded, Lay lay) {
            for (int i = 0; i < lay.bands(p, axis) - 1; i++) {
                if (!has(folded, lay.lineBehind(p, axis, i))) {
                    int over = 4 * lay.edges[axis][i + 1] + 2 * axis;
                    tryStep(p, over, folded, lay);
                    tryStep(p, over + 1, folded, lay);
                }
            }
        }

        private void tryStep(Paper p, int step, int folded, Lay lay) {
            int lines = lay.linesFoldedBy(p, step);
            int next = folded | lines;
            if (lines == 0 || fewest[next] == NO_WAY) {
                return;
            }
            int count = fewest[next] + 1;
            if (count < fewest[folded] || count == fewest[folded] && step < firstSteps[folded]) {
                fewest[folded] = count;
                firstSteps[folded] = step;
                nexts[folded] = next;
            }
        }

        /** Writes the way from flat paper into steps: how many. */
        int trace(int all, int[] steps) {
            int count = 0;
            for (int folded = 0; folded != all && count < steps.length; folded = nexts[folded]) {
                steps[count] = firstSteps[folded];
                count++;
            }
            return count;
        }
    }
}
