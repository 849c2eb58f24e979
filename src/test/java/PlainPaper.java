import java.util.ArrayList;
import java.util.Arrays;
import java.util.HashSet;
import java.util.List;
import java.util.Set;
import java.util.TreeSet;

/** The document's words taken one by one, with no thought for speed: all rows of faces are looked at. */
final class PlainPaper {
    static final int STRIP = 0, CORNER = 1, MAP = 2;

    record Crease(int first, int second, boolean ofRows, int index) { }

    final int kind, rows, columns, faces;
    final int[] length;
    final int[] mark;
    final List<Crease> creases = new ArrayList<>();
    final Set<Integer> folded = new HashSet<>();

    PlainPaper(int kind, int rows, int columns) {
        this.kind = kind;
        this.rows = rows;
        this.columns = columns;
        this.faces = rows * columns;
        length = new int[faces];
        Arrays.fill(length, 1);
        for (int r = 0; r < rows; r++) {
            for (int c = 0; c + 1 < columns; c++) {
                creases.add(new Crease(r * columns + c, r * columns + c + 1, false, c));
            }
        }
        for (int r = 0; r + 1 < rows; r++) {
            for (int c = 0; c < columns; c++) {
                creases.add(new Crease(r * columns + c, (r + 1) * columns + c, true, r));
            }
        }
        if (kind == CORNER) {
            creases.add(new Crease(faces - 1, 0, false, faces - 1));
        }
        mark = new int[creases.size()];
    }

    boolean frontUp(int face) {
        return kind == MAP ? (face / columns + face % columns) % 2 == 0 : face % 2 == 0;
    }

    /** Where a face begins when all is folded. */
    int begin(int face) {
        int place = 0;
        for (int i = 0; i < face; i++) {
            place += i % 2 == 0 ? length[i] : -length[i];
        }
        return place;
    }

    int end(int face) {
        return begin(face + 1);
    }

    int place(int crease) {
        Crease c = creases.get(crease);
        if (kind == MAP) {
            return c.index % 2 + (c.ofRows ? 2 : 0);
        }
        return end(c.first);
    }

    int unevenness() {
        int sum = 0;
        for (int i = 0; i < faces; i++) {
            sum += i % 2 == 0 ? length[i] : -length[i];
        }
        return kind == CORNER ? sum : 0;
    }

    boolean even() {
        return kind != CORNER || faces % 2 == 0 && unevenness() == 0;
    }

    int turn(int crease, int[] height) {
        Crease c = creases.get(crease);
        boolean above = height[c.second] > height[c.first];
        if (frontUp(c.first)) {
            return above ? 2 : 1;
        }
        return above ? 1 : 2;
    }

    static boolean between(int x, int a, int b) {
        return a < x && x < b || b < x && x < a;
    }

    int check(int[] height) {
        if (!even()) {
            return 40000;
        }
        for (int c = 0; c < mark.length; c++) {
            if (mark[c] != 0 && mark[c] != turn(c, height)) {
                return 10000 + 100 * c;
            }
        }
        for (int c = 0; c < mark.length && kind != MAP; c++) {
            Crease k = creases.get(c);
            for (int f = 0; f < faces; f++) {
                if (f != k.first && f != k.second && between(place(c), begin(f), end(f))
                        && between(height[f], height[k.first], height[k.second])) {
                    return 20000 + 100 * c + f;
                }
            }
        }
        for (int c = 0; c < mark.length; c++) {
            for (int d = c + 1; d < mark.length; d++) {
                if (crossed(c, d, height)) {
                    return 30000 + 100 * c + d;
                }
            }
        }
        return 0;
    }

    private boolean crossed(int c, int d, int[] height) {
        Crease k = creases.get(c), l = creases.get(d);
        if (place(c) != place(d) || Set.of(k.first, k.second).contains(l.first) || Set.of(k.first, k.second).contains(l.second)) {
            return false;
        }
        // From below means that the first face began below its end.
        if (kind != MAP && begin(k.first) < end(k.first) != begin(l.first) < end(l.first)) {
            return false;
        }
        int within = 0;
        within += between(height[l.first], height[k.first], height[k.second]) ? 1 : 0;
        within += between(height[l.second], height[k.first], height[k.second]) ? 1 : 0;
        return within == 1;
    }

    static int[] heights(int[] row) {
        int[] height = new int[row.length];
        for (int h = 0; h < row.length; h++) {
            height[row[h]] = h;
        }
        return height;
    }

    static long number(int[] row) {
        long number = 0;
        for (int h = row.length - 1; h >= 0; h--) {
            number = 10 * number + row[h];
        }
        return number;
    }

    /** Least first, as rows are made in that order. */
    List<int[]> allowed() {
        List<int[]> found = new ArrayList<>();
        if (even()) {
            grow(new int[faces], 0, 0, found);
        }
        return found;
    }

    private void grow(int[] row, int size, int used, List<int[]> found) {
        if (size == faces) {
            if (check(heights(row)) == 0) {
                found.add(row.clone());
            }
            return;
        }
        for (int f = 0; f < faces; f++) {
            if ((used >> f & 1) == 0) {
                row[size] = f;
                grow(row, size + 1, used | 1 << f, found);
            }
        }
    }

    /** Every way to mark all creases is tried that leaves the marks as they are. */
    int foldings() {
        List<int[]> rows = allowed();
        int count = 0;
        for (int valleys = 0; valleys < 1 << mark.length; valleys++) {
            if (keepsMarks(valleys) && isMet(valleys, rows)) {
                count++;
            }
        }
        return count;
    }

    private static int markIn(int valleys, int crease) {
        return (valleys >> crease & 1) != 0 ? 2 : 1;
    }

    private boolean keepsMarks(int valleys) {
        for (int c = 0; c < mark.length; c++) {
            if (mark[c] != 0 && mark[c] != markIn(valleys, c)) {
                return false;
            }
        }
        return true;
    }

    private boolean isMet(int valleys, List<int[]> rows) {
        for (int[] row : rows) {
            int[] height = heights(row);
            boolean all = true;
            for (int c = 0; c < mark.length && all; c++) {
                all = turn(c, height) == markIn(valleys, c);
            }
            if (all) {
                return true;
            }
        }
        return false;
    }

    List<Integer> clash() {
        List<Integer> left = new ArrayList<>();
        if (!allowed().isEmpty()) {
            return left;
        }
        int[] kept = mark.clone();
        for (int c = mark.length - 1; c >= 0; c--) {
            if (mark[c] != 0) {
                int had = mark[c];
                mark[c] = 0;
                if (!allowed().isEmpty()) {
                    mark[c] = had;
                }
            }
        }
        for (int c = 0; c < mark.length; c++) {
            if (mark[c] != 0) {
                left.add(c);
            }
        }
        System.arraycopy(kept, 0, mark, 0, kept.length);
        return left;
    }

    // ---- as it lies: folded holds 'index' of columns, or 100 + 'index' of rows

    static int key(boolean ofRows, int index) {
        return ofRows ? 100 + index : index;
    }

    boolean upwards(boolean ofRows, int band) {
        boolean up = true;
        for (int i = 0; i < band; i++) {
            up ^= folded.contains(key(ofRows, i));
        }
        return up;
    }

    int lyingBegin(boolean ofRows, int band) {
        int place = 0;
        for (int i = 0; i < band; i++) {
            int size = kind == MAP ? 1 : length[i];
            place += upwards(ofRows, i) ? size : -size;
        }
        return place;
    }

    boolean lyingFront(int face) {
        return upwards(false, face % columns) == upwards(true, face / columns);
    }

    int fold(int step) {
        int place = Math.floorDiv(step, 4);
        boolean ofRows = Math.floorMod(step, 4) >= 2;
        boolean under = Math.floorMod(step, 2) == 1;
        if (kind == STRIP && ofRows) {
            return 0;
        }
        for (int f = 0; f < faces && kind == STRIP; f++) {
            if (between(place, lyingBegin(false, f), lyingBegin(false, f + 1))) {
                return 0;
            }
        }
        Set<Integer> now = new HashSet<>();
        int count = 0;
        for (int c = 0; c < mark.length; c++) {
            Crease k = creases.get(c);
            boolean there = k.ofRows == ofRows && lyingBegin(ofRows, k.index + 1) == place;
            if (there && !folded.contains(key(ofRows, k.index))) {
                int turn = lyingFront(k.first) != under ? 2 : 1;
                if (mark[c] != 0 && mark[c] != turn) {
                    return 0;
                }
                now.add(key(ofRows, k.index));
                count++;
            }
        }
        folded.addAll(now);
        return count;
    }

    int foldedCreases() {
        int count = 0;
        for (Crease k : creases) {
            count += folded.contains(key(k.ofRows, k.index)) ? 1 : 0;
        }
        return count;
    }

    /** The least way, or null: ways of 0, 1, 2, .. folds are tried, each from its least fold on. */
    List<Integer> simple() {
        Set<Integer> lay = new HashSet<>(folded);
        List<Integer> found = null;
        for (int most = 0; most <= 8 && found == null; most++) {
            folded.clear();
            List<Integer> way = new ArrayList<>();
            if (search(way, most)) {
                found = way;
            }
        }
        folded.clear();
        folded.addAll(lay);
        return found;
    }

    private boolean search(List<Integer> way, int left) {
        if (foldedCreases() == creases.size()) {
            return left == 0;
        }
        if (left == 0) {
            return false;
        }
        Set<Integer> before = new HashSet<>(folded);
        for (int step : stepsToTry()) {
            if (fold(step) > 0) {
                way.add(step);
                if (search(way, left - 1)) {
                    return true;
                }
                way.remove(way.size() - 1);
                folded.clear();
                folded.addAll(before);
            }
        }
        return false;
    }

    private Set<Integer> stepsToTry() {
        Set<Integer> steps = new TreeSet<>();
        for (Crease k : creases) {
            int step = 4 * lyingBegin(k.ofRows, k.index + 1) + (k.ofRows ? 2 : 0);
            steps.add(step);
            steps.add(step + 1);
        }
        return steps;
    }
}
