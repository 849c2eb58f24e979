import java.util.List;

/** Many papers, each asked all that can be asked of it, against the document's words taken plainly. */
public final class AgainstPlainTest {
    private static final Due due = new Due("AgainstPlainTest");
    private static long seed = 20261115;

    private static int pick(int below) {
        seed = seed * 6364136223846793005L + 1442695040888963407L;
        return (int) Long.remainderUnsigned(seed >>> 33, below);
    }

    private static final int[][] MAPS = {{1, 1}, {1, 4}, {4, 1}, {2, 2}, {2, 3}, {3, 2}, {1, 6}, {6, 1}, {1, 7}};

    /** Kind, rows and columns: few of them, as the plain way looks at up to 362,880 rows of faces each time. */
    private static final int[][] GREAT = {{0, 1, 8}, {0, 1, 9}, {1, 1, 8}, {1, 1, 9}, {2, 3, 3}, {2, 2, 4}, {2, 4, 2}, {2, 9, 1}};

    private static PlainPaper randomPaper() {
        int kind = pick(3);
        if (kind == PlainPaper.MAP) {
            int[] size = MAPS[pick(MAPS.length)];
            return paperOf(kind, size[0], size[1]);
        }
        return paperOf(kind, 1, kind == PlainPaper.STRIP ? 1 + pick(7) : 2 + pick(6));
    }

    private static PlainPaper paperOf(int kind, int rows, int columns) {
        PlainPaper p = new PlainPaper(kind, rows, columns);
        if (kind == PlainPaper.MAP) {
            return p;
        }
        int faces = p.faces;
        int spread = 1 + pick(4);
        for (int f = 0; f < faces; f++) {
            p.length[f] = 1 + pick(spread);
        }
        if (kind == PlainPaper.CORNER && pick(6) > 0) {
            makeEven(p);
        }
        return p;
    }

    private static void makeEven(PlainPaper p) {
        int much = p.unevenness();
        if (much > 0) {
            p.length[1] += much;
        } else {
            p.length[0] -= much;
        }
    }

    private static void randomMarks(PlainPaper p) {
        int share = pick(4);
        for (int c = 0; c < p.mark.length; c++) {
            p.mark[c] = pick(4) < share ? 1 + pick(2) : 0;
        }
    }

    /** Marks that an order, or a run of simple folds, gives: else most papers could not be folded. */
    private static void markAsFolded(PlainPaper p) {
        List<int[]> rows = p.allowed();
        if (!rows.isEmpty()) {
            int[] height = PlainPaper.heights(rows.get(pick(rows.size())));
            for (int c = 0; c < p.mark.length; c++) {
                p.mark[c] = pick(3) > 0 ? p.turn(c, height) : 0;
            }
        }
    }

    private static int copyTo(CreaseFlat x, PlainPaper p) {
        int n = p.kind == PlainPaper.STRIP ? x.strip(p.faces)
                : p.kind == PlainPaper.CORNER ? x.corner(p.faces) : x.map(p.rows, p.columns);
        for (int f = 0; f < p.faces && p.kind != PlainPaper.MAP; f++) {
            x.length(n, f, p.length[f]);
        }
        for (int c = 0; c < p.mark.length; c++) {
            x.mark(n, c, p.mark[c]);
        }
        return n;
    }

    private static void askAbout(CreaseFlat x, int n, PlainPaper p, String name) {
        due.is(name + " faces", x.about(n, 1), p.faces);
        due.is(name + " creases", x.about(n, 2), p.mark.length);
        due.is(name + " unevenness", x.about(n, 5), p.unevenness());
        for (int c = 0; c < p.mark.length; c++) {
            due.is(name + " first of " + c, x.crease(n, c, 0), p.creases.get(c).first());
            due.is(name + " second of " + c, x.crease(n, c, 1), p.creases.get(c).second());
            due.is(name + " mark of " + c, x.crease(n, c, 2), p.mark[c]);
            due.is(name + " place of " + c, x.crease(n, c, 3), p.place(c));
        }
    }

    private static void askOrders(CreaseFlat x, int n, PlainPaper p, List<int[]> rows, String name) {
        due.is(name + " orders", x.orders(n), rows.size());
        due.is(name + " judge", x.judge(n), rows.isEmpty() ? 0 : 1);
        for (int h = 0; h < p.faces && !rows.isEmpty(); h++) {
            due.is(name + " layer " + h, x.layer(h), rows.get(0)[h]);
        }
        for (int c = 0; c < p.mark.length && !rows.isEmpty(); c++) {
            due.is(name + " turned " + c, x.turned(c), p.turn(c, PlainPaper.heights(rows.get(0))));
        }
        for (int i = 0; i < 4 && !rows.isEmpty(); i++) {
            int k = pick(rows.size());
            due.is(name + " order " + k, x.order(n, k), PlainPaper.number(rows.get(k)));
        }
        due.is(name + " order after the last", x.order(n, rows.size()), CreaseFlat.OUTSIDE);
        for (int i = 0; i < 10; i++) {
            int[] row = randomRow(p.faces);
            due.is(name + " check " + PlainPaper.number(row), x.check(n, PlainPaper.number(row)), p.check(PlainPaper.heights(row)));
        }
    }

    private static int[] randomRow(int faces) {
        int[] row = new int[faces];
        for (int i = 0; i < faces; i++) {
            int j = pick(i + 1);
            row[i] = row[j];
            row[j] = i;
        }
        return row;
    }

    private static void askWhatAllHave(CreaseFlat x, int n, PlainPaper p, List<int[]> rows, String name) {
        for (int c = 0; c < p.mark.length; c++) {
            int met = 0;
            for (int[] row : rows) {
                met |= p.turn(c, PlainPaper.heights(row));
            }
            due.is(name + " forced " + c, x.forced(n, c), met);
        }
        for (int one = 0; one < p.faces; one++) {
            for (int other = 0; other < p.faces; other++) {
                due.is(name + " above " + one + " " + other, x.above(n, one, other), above(rows, one, other));
            }
        }
    }

    private static int above(List<int[]> rows, int one, int other) {
        int over = 0, under = 0;
        for (int[] row : rows) {
            int[] height = PlainPaper.heights(row);
            over += height[one] > height[other] ? 1 : 0;
            under += height[one] < height[other] ? 1 : 0;
        }
        if (over + under == 0) {
            return 2;
        }
        return over == 0 ? -1 : under == 0 ? 1 : 0;
    }

    private static void askMarks(CreaseFlat x, int n, PlainPaper p, String name) {
        due.is(name + " foldings", x.foldings(n), p.foldings());
        List<Integer> left = p.clash();
        due.is(name + " clash", x.clash(n), left.size());
        for (int k = -1; k <= left.size(); k++) {
            due.is(name + " inClash " + k, x.inClash(k), k >= 0 && k < left.size() ? left.get(k) : CreaseFlat.NONE);
        }
    }

    private static void askSimple(CreaseFlat x, int n, PlainPaper p, String name) {
        if (p.kind == PlainPaper.CORNER) {
            due.is(name + " simple", x.simple(n), CreaseFlat.STATE);
            return;
        }
        List<Integer> way = p.simple();
        due.is(name + " simple", x.simple(n), way == null ? CreaseFlat.NONE : way.size());
        for (int i = 0; way != null && i <= way.size(); i++) {
            due.is(name + " step " + i, x.step(i), i < way.size() ? way.get(i) : CreaseFlat.STATE);
        }
        for (int i = 0; i < 12; i++) {
            int step = pick(3) == 0 ? pick(60) - 30 : openStep(p);
            due.is(name + " fold " + step, x.fold(n, step), p.fold(step));
            askLies(x, n, p, name + " after fold " + step);
        }
        due.is(name + " simple as it lies", x.simple(n), way == null ? CreaseFlat.NONE : way.size());
        due.is(name + " flatten", x.flatten(n), p.foldedCreases());
        p.folded.clear();
        askLies(x, n, p, name + " flattened");
    }

    private static int openStep(PlainPaper p) {
        if (p.mark.length == 0) {
            return 0;
        }
        PlainPaper.Crease k = p.creases.get(pick(p.mark.length));
        return 4 * p.lyingBegin(k.ofRows(), k.index() + 1) + (k.ofRows() ? 2 : 0) + pick(2);
    }

    private static void askLies(CreaseFlat x, int n, PlainPaper p, String name) {
        for (int f = 0; f < p.faces; f++) {
            int column = f % p.columns, row = f / p.columns;
            due.is(name + " lies 0 " + f, x.lies(n, f, 0), p.lyingBegin(false, column));
            due.is(name + " lies 1 " + f, x.lies(n, f, 1), p.upwards(false, column) ? 1 : 0);
            due.is(name + " lies 2 " + f, x.lies(n, f, 2), p.lyingFront(f) ? 1 : 0);
            due.is(name + " lies 3 " + f, x.lies(n, f, 3), p.lyingBegin(true, row));
        }
    }

    private static void askAlike(CreaseFlat x, int n, PlainPaper p, List<int[]> rows, String name) {
        PlainPaper q = randomPaper();
        if (pick(2) == 0 && p.kind != PlainPaper.MAP) {
            q = new PlainPaper(PlainPaper.STRIP, 1, p.faces);
            System.arraycopy(p.length, 0, q.length, 0, p.faces);
            q.length[pick(p.faces)] += pick(2);
        }
        int m = copyTo(x, q);
        List<int[]> others = q.allowed();
        boolean same = p.faces == q.faces && rows.size() == others.size();
        for (int i = 0; same && i < rows.size(); i++) {
            same = PlainPaper.number(rows.get(i)) == PlainPaper.number(others.get(i));
        }
        due.is(name + " alike", x.alike(n, m), same ? 1 : 0);
        due.is(name + " alike the other way", x.alike(m, n), same ? 1 : 0);
        due.is(name + " alike itself", x.alike(n, n), 1);
    }

    private static void ask(PlainPaper p, String name) {
        CreaseFlat x = new CreaseFlat();
        int n = copyTo(x, p);
        List<int[]> rows = p.allowed();
        askAbout(x, n, p, name);
        askOrders(x, n, p, rows, name);
        askWhatAllHave(x, n, p, rows, name);
        askMarks(x, n, p, name);
        askSimple(x, n, p, name);
        askAlike(x, n, p, rows, name);
    }

    private static void askMarked(PlainPaper p, int how, String name) {
        if (how == 1) {
            randomMarks(p);
        } else if (how == 2) {
            markAsFolded(p);
        }
        ask(p, name + " (kind " + p.kind + ", " + p.rows + " x " + p.columns + ")");
    }

    public static void main(String[] args) {
        for (int i = 0; i < 600; i++) {
            askMarked(randomPaper(), i % 3, "paper " + i);
        }
        for (int[] great : GREAT) {
            for (int how = 0; how < 3; how++) {
                askMarked(paperOf(great[0], great[1], great[2]), how, "great paper, marks " + how);
            }
        }
        due.end();
    }
}
