/** What the tests of single sentences share: the document's numbers, and papers made in one go. */
abstract class Sheets {
    static final int NONE = -1, UNKNOWN = -101, OUTSIDE = -102, STATE = -103, ROOM = -104;
    static final int MIN = Integer.MIN_VALUE, MAX = Integer.MAX_VALUE;
    static final int MOUNTAIN = 1, VALLEY = 2;

    static void lengths(CreaseFlat x, int paper, int... v) {
        for (int f = 0; f < v.length; f++) {
            x.length(paper, f, v[f]);
        }
    }

    static void marks(CreaseFlat x, int paper, int... m) {
        for (int c = 0; c < m.length; c++) {
            x.mark(paper, c, m[c]);
        }
    }

    static CreaseFlat withStrip(int... v) {
        CreaseFlat x = new CreaseFlat();
        x.strip(v.length);
        lengths(x, 0, v);
        return x;
    }

    static CreaseFlat withCorner(int... v) {
        CreaseFlat x = new CreaseFlat();
        x.corner(v.length);
        lengths(x, 0, v);
        return x;
    }

    static CreaseFlat withMap(int rows, int columns) {
        CreaseFlat x = new CreaseFlat();
        x.map(rows, columns);
        return x;
    }

    static int[] all(int n, int value) {
        int[] row = new int[n];
        java.util.Arrays.fill(row, value);
        return row;
    }
}
