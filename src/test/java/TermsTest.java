/** The sentences of the document's section 'Terms', one by one, each at the boundary that it names. */
public final class TermsTest extends Sheets {
    private static final Due due = new Due("TermsTest");

    // ---- papers

    private static void thirtyPapers() {
        due.says("PAPERS are numbered 0, 1, .. (30 at most).");
        CreaseFlat x = new CreaseFlat();
        for (int n = 0; n < 30; n++) {
            int got = n % 3 == 0 ? x.strip(2) : n % 3 == 1 ? x.corner(3) : x.map(2, 2);
            due.is("paper " + n, got, n);
            due.is("the next one is not there yet", x.about(n + 1, 0), UNKNOWN);
        }
        for (int again = 0; again < 2; again++) {
            due.is("one strip more", x.strip(1), ROOM);
            due.is("one corner more", x.corner(2), ROOM);
            due.is("one map more", x.map(1, 1), ROOM);
        }
        due.is("the first one", x.about(0, 0), 0);
        due.is("the last one", x.about(29, 0), 2);
        due.is("no 31st one", x.about(30, 0), UNKNOWN);
        due.is("none below 0", x.about(-1, 0), UNKNOWN);
    }

    private static void marksAtFirst() {
        due.says("for each crease a MARK: 0 any, 1 MOUNTAIN, 2 VALLEY (at first 0)");
        CreaseFlat x = new CreaseFlat();
        x.strip(9);
        x.corner(9);
        x.map(3, 3);
        int[] creases = {8, 9, 12};
        for (int paper = 0; paper < 3; paper++) {
            for (int c = 0; c < creases[paper]; c++) {
                due.is("at first " + paper + " " + c, x.crease(paper, c, 2), 0);
                due.is("least mark", x.mark(paper, c, 0), 0);
                due.is("greatest mark", x.mark(paper, c, 2), 0);
                due.is("it was 2", x.mark(paper, c, 1), 2);
            }
        }
    }

    private static void stripFaces() {
        due.says("A STRIP has 1 .. 9 faces in a row");
        CreaseFlat x = new CreaseFlat();
        due.is("too few", x.strip(0), OUTSIDE);
        due.is("too many", x.strip(10), OUTSIDE);
        for (int n = 1; n <= 9; n++) {
            due.is("strip " + n, x.strip(n), n - 1);
            due.is("faces", x.about(n - 1, 1), n);
        }
        due.says("crease i is between faces i and i + 1");
        for (int n = 1; n <= 9; n++) {
            due.is("creases", x.about(n - 1, 2), n - 1);
            for (int c = 0; c < n - 1; c++) {
                due.is("first of " + c, x.crease(n - 1, c, 0), c);
                due.is("second of " + c, x.crease(n - 1, c, 1), c + 1);
            }
            due.is("none behind the last face", x.crease(n - 1, n - 1, 0), UNKNOWN);
            due.is("none ahead of face 0", x.crease(n - 1, -1, 0), UNKNOWN);
        }
    }

    private static void lengthsOf(CreaseFlat x, int faces) {
        for (int f = 0; f < faces; f++) {
            due.is("at first, of " + f, x.length(0, f, 1000), 1);
            due.is("the greatest", x.length(0, f, 1), 1000);
            due.is("the least", x.length(0, f, 2), 1);
            due.is("too small", x.length(0, f, 0), OUTSIDE);
            due.is("too great", x.length(0, f, 1001), OUTSIDE);
            due.is("it stays", x.length(0, f, 2), 2);
        }
        due.is("no face more", x.length(0, faces, 2), UNKNOWN);
        due.is("no face below 0", x.length(0, -1, 2), UNKNOWN);
    }

    private static void stripLengths() {
        due.says("each with a length (1 .. 1000, at first 1)");
        lengthsOf(withStrip(1, 1, 1, 1, 1, 1, 1, 1, 1), 9);
        CreaseFlat one = new CreaseFlat();
        one.strip(1);
        lengthsOf(one, 1);
    }

    private static void places(CreaseFlat x, int... want) {
        for (int c = 0; c < want.length; c++) {
            due.is("place of " + c, x.crease(0, c, 3), want[c]);
        }
    }

    private static void stripPlaces() {
        due.says("each next one goes on from where the one before ended, the other way round");
        places(withStrip(1, 1, 1, 1, 1, 1, 1, 1, 1), 1, 0, 1, 0, 1, 0, 1, 0);
        places(withStrip(1000, 1, 1000, 1, 1000, 1, 1000, 1, 1000), 1000, 999, 1999, 1998, 2998, 2997, 3997, 3996);
        places(withStrip(1, 1000, 1, 1000, 1, 1000, 1, 1000, 1), 1, -999, -998, -1998, -1997, -2997, -2996, -3996);
        due.says("A crease's PLACE is where its first face ended.");
        CreaseFlat x = withStrip(4, 7, 5);
        places(x, 4, -3);
        x.length(0, 2, 9);
        places(x, 4, -3);
        x.length(0, 1, 1);
        places(x, 4, 3);
        x.length(0, 0, 1);
        places(x, 1, 0);
    }

    /** Where a lone valley puts its second face: above its first one, if that one's front is up. */
    private static void valleyAlone(CreaseFlat x, int crease, boolean up) {
        x.mark(0, crease, VALLEY);
        int first = x.crease(0, crease, 0), second = x.crease(0, crease, 1);
        due.is("valley " + crease, x.above(0, second, first), up ? 1 : -1);
        x.mark(0, crease, MOUNTAIN);
        due.is("mountain " + crease, x.above(0, second, first), up ? -1 : 1);
        x.mark(0, crease, 0);
        due.is("any " + crease, x.above(0, second, first), 0);
    }

    private static void stripFronts() {
        due.says("The front is up of faces 0, 2, 4, ..");
        CreaseFlat x = withStrip(1, 1, 1, 1, 1, 1, 1, 1, 1);
        for (int c = 0; c < 8; c++) {
            valleyAlone(x, c, c == 0 || c == 2 || c == 4 || c == 6);
        }
    }

    private static void cornerFaces() {
        due.says("A CORNER has 2 .. 9 faces round one point");
        CreaseFlat x = new CreaseFlat();
        due.is("too few", x.corner(1), OUTSIDE);
        due.is("none", x.corner(0), OUTSIDE);
        due.is("too many", x.corner(10), OUTSIDE);
        for (int n = 2; n <= 9; n++) {
            due.is("corner " + n, x.corner(n), n - 2);
            due.is("faces", x.about(n - 2, 1), n);
        }
        due.says("crease i is between faces i and i + 1, the last one between the last face and face 0");
        for (int n = 2; n <= 9; n++) {
            due.is("creases", x.about(n - 2, 2), n);
            for (int c = 0; c < n - 1; c++) {
                due.is("first of " + c, x.crease(n - 2, c, 0), c);
                due.is("second of " + c, x.crease(n - 2, c, 1), c + 1);
            }
            due.is("first of the last one", x.crease(n - 2, n - 1, 0), n - 1);
            due.is("second of the last one", x.crease(n - 2, n - 1, 1), 0);
            due.is("no more", x.crease(n - 2, n, 0), UNKNOWN);
        }
    }

    private static void cornerAngles() {
        due.says("each with an angle (as a strip's length)");
        lengthsOf(withCorner(1, 1, 1, 1, 1, 1, 1, 1, 1), 9);
        lengthsOf(withCorner(1, 1), 2);
    }

    private static void cornerPlacesAndFronts() {
        due.says("Places and fronts are as a strip's (angles for lengths).");
        places(withCorner(3, 1, 3, 5), 3, 2, 5, 0);
        places(withCorner(1, 1000), 1, -999);
        places(withCorner(1000, 1, 1000), 1000, 999, 1999);
        CreaseFlat x = withCorner(1, 1, 1, 1);
        for (int c = 0; c < 4; c++) {
            valleyAlone(x, c, c == 0 || c == 2);
        }
        CreaseFlat two = withCorner(8, 8);
        valleyAlone(two, 0, true);
        valleyAlone(two, 1, false);
    }

    private static void evenOrNot(int difference, int orders, int... angles) {
        CreaseFlat x = withCorner(angles);
        due.is("difference of " + angles.length, x.about(0, 5), difference);
        due.is("orders of " + angles.length, x.orders(0), orders);
    }

    private static void even() {
        due.says("It is EVEN, if the number of faces is even, and the angles of faces 0, 2, .. are together as those of faces 1, 3, ..");
        evenOrNot(0, 2, 1000, 1000);
        evenOrNot(1, 0, 1000, 999);
        evenOrNot(-1, 0, 999, 1000);
        evenOrNot(0, 8, 2, 2, 2, 2);
        evenOrNot(1, 0, 3, 2, 2, 2);
        evenOrNot(-1, 0, 2, 2, 2, 3);
        // As much on either side, yet not an even number of faces.
        evenOrNot(0, 0, 1, 2, 1);
        evenOrNot(0, 0, 1, 1, 1, 1, 1, 1, 1, 2, 1);
        due.says("A corner that is not EVEN has no allowed order, whatever the rules say.");
        CreaseFlat x = withCorner(1, 1, 1, 2);
        due.is("a row that breaks no rule", x.check(0, 3210), 40000);
        due.is("orders", x.orders(0), 0);
        due.is("judge", x.judge(0), 0);
        due.is("order", x.order(0, 0), OUTSIDE);
        due.is("forced", x.forced(0, 3), 0);
        due.is("above", x.above(0, 0, 1), 2);
        due.is("foldings", x.foldings(0), 0);
        x.length(0, 3, 1);
        due.is("it is even now", x.orders(0), 8);
        x.length(0, 3, 2);
        due.is("and is not again", x.orders(0), 0);
    }

    // ---- maps

    private static void nineSquares() {
        due.says("A MAP has rows and columns of squares (9 squares at most; face r c is number r times columns + c)");
        CreaseFlat x = new CreaseFlat();
        int made = 0;
        for (int r = 0; r <= 10; r++) {
            for (int c = 0; c <= 10; c++) {
                boolean fits = r >= 1 && c >= 1 && r * c <= 9;
                due.is("map " + r + " " + c, x.map(r, c), fits ? made : OUTSIDE);
                made += fits ? 1 : 0;
            }
        }
        due.is("all that fit", made, 23);
        due.is("rows below 0", x.map(-1, -9), OUTSIDE);
        due.is("a product that wraps round to 1", x.map(954437177, 9), OUTSIDE);
        due.is("a product that wraps round to 1", x.map(9, 954437177), OUTSIDE);
        due.is("a product that wraps round to 0", x.map(1 << 16, 1 << 16), OUTSIDE);
        due.is("the greatest numbers", x.map(MAX, MAX), OUTSIDE);
    }

    private static void mapCreases(int rows, int columns, int[]... pairs) {
        CreaseFlat x = withMap(rows, columns);
        due.is("creases of " + rows + " by " + columns, x.about(0, 2), pairs.length);
        for (int c = 0; c < pairs.length; c++) {
            due.is("first of " + c, x.crease(0, c, 0), pairs[c][0]);
            due.is("second of " + c, x.crease(0, c, 1), pairs[c][1]);
        }
        due.is("no more", x.crease(0, pairs.length, 0), UNKNOWN);
    }

    private static void numbersOnMaps() {
        due.says("creases between a square and the one to its right come first (by rows, then columns), then those between a square and the one below it (by rows, then columns)");
        mapCreases(1, 1);
        mapCreases(1, 2, new int[] {0, 1});
        mapCreases(2, 1, new int[] {0, 1});
        mapCreases(2, 2, new int[][] {{0, 1}, {2, 3}, {0, 2}, {1, 3}});
        mapCreases(2, 3, new int[][] {{0, 1}, {1, 2}, {3, 4}, {4, 5}, {0, 3}, {1, 4}, {2, 5}});
        mapCreases(3, 2, new int[][] {{0, 1}, {2, 3}, {4, 5}, {0, 2}, {1, 3}, {2, 4}, {3, 5}});
        mapCreases(3, 3, new int[][] {{0, 1}, {1, 2}, {3, 4}, {4, 5}, {6, 7}, {7, 8}, {0, 3}, {1, 4}, {2, 5}, {3, 6}, {4, 7}, {5, 8}});
    }

    private static void mapFronts() {
        due.says("The front is up where row and column together are even.");
        CreaseFlat x = withMap(3, 3);
        boolean[] up = {true, false, false, true, true, false, true, false, true, false, true, false};
        for (int c = 0; c < 12; c++) {
            valleyAlone(x, c, up[c]);
        }
    }

    private static void mapPlaces() {
        due.says("between columns c and c + 1: 0 if c is even, 1 if it is odd; between rows r and r + 1: 2, 3 likewise");
        places(withMap(1, 9), 0, 1, 0, 1, 0, 1, 0, 1);
        places(withMap(9, 1), 2, 3, 2, 3, 2, 3, 2, 3);
        places(withMap(2, 4), 0, 1, 0, 0, 1, 0, 2, 2, 2, 2);
        places(withMap(3, 3), 0, 1, 0, 1, 0, 1, 2, 2, 2, 3, 3, 3);
    }

    // ---- the rules

    private static void ruleMarks() {
        due.says("1 MARKS: a VALLEY's second face lies above its first one, if the first one's front is up, else below; a MOUNTAIN's the other way round.");
        CreaseFlat x = withStrip(1, 1, 1);
        x.mark(0, 0, VALLEY);
        due.is("front up, above", x.check(0, 210), 0);
        due.is("front up, below", x.check(0, 201), 10000);
        x.mark(0, 0, MOUNTAIN);
        due.is("front up, above", x.check(0, 210), 10000);
        due.is("front up, below", x.check(0, 201), 0);
        x.mark(0, 0, 0);
        x.mark(0, 1, VALLEY);
        due.is("front down, above", x.check(0, 210), 10100);
        due.is("front down, below", x.check(0, 120), 0);
        x.mark(0, 1, MOUNTAIN);
        due.is("front down, above", x.check(0, 210), 0);
        due.is("front down, below", x.check(0, 120), 10100);
        x.mark(0, 1, 0);
        due.is("any, above", x.check(0, 210), 0);
        due.is("any, below", x.check(0, 120), 0);
    }

    private static void ruleThrough() {
        due.says("no third face that has the place of a crease within it (not at its ends) lies between the two faces of that crease");
        // Crease 0 has the place 1, and face 2, which lies between its faces, begins at 0.
        due.is("its end is at the place", withStrip(1, 1, 1).check(0, 120), 0);
        due.is("it ends one further", withStrip(1, 1, 2).check(0, 120), 20002);
        due.is("it lies above both", withStrip(1, 1, 2).check(0, 210), 0);
        due.is("it lies below both", withStrip(1, 1, 2).check(0, 102), 0);
        // Crease 0 has the place 2, where face 3, which lies between its faces, begins.
        due.is("its beginning is at the place", withStrip(2, 1, 1, 5).check(0, 1230), 0);
        due.is("it begins one further", withStrip(2, 1, 2, 5).check(0, 2130), 20003);
        // Face 1 goes downwards and lies between the faces of crease 3.
        due.is("its lower end is at the place", withStrip(1, 1, 1, 1, 1).check(0, 4123), 0);
        due.is("it ends one further down", withStrip(2, 2, 2, 1, 1).check(0, 4123), 20301);
        // Face 1 goes from 1 down to -2, the place of crease 2 is -1.
        due.is("a place below 0", withStrip(1, 3, 1, 1).check(0, 312), 20201);
        due.says("2 THROUGH (strips, corners)");
        due.is("of a corner", withCorner(3, 1, 3, 5).check(0, 3201), 20100);
        // The last crease has the place 0, which lies within faces 1 and 2.
        due.is("of a corner's last crease", withCorner(1, 2, 2, 1).check(0, 3210), 20301);
        due.is("they lie above both", withCorner(1, 2, 2, 1).check(0, 1230), 0);
        due.is("not of a map", withMap(1, 3).check(0, 120), 0);
        due.is("nor of a map's rows", withMap(3, 1).check(0, 120), 0);
    }

    private static void ruleAcross() {
        due.says("with four faces, not just one face of the one lies between the faces of the other");
        CreaseFlat x = withStrip(1, 1, 1, 1);
        due.is("just one", x.check(0, 3120), 30002);
        due.is("just the other one", x.check(0, 2130), 30002);
        due.is("both", x.check(0, 1320), 0);
        due.is("both of the other crease", x.check(0, 3012), 0);
        due.is("none", x.check(0, 3210), 0);
        due.says("the first face of either comes to the place from below it, or of either from above");
        // Creases 1 and 3 both come to place 0 from above.
        due.is("both from above", withStrip(1, 1, 1, 1, 1).check(0, 42310), 30103);
        // Crease 0 comes to place 1 from below, crease 3 from above.
        CreaseFlat sides = withStrip(1, 1, 2, 1, 1);
        due.is("one place", sides.crease(0, 3, 3), sides.crease(0, 0, 3));
        due.is("one from below, one from above", sides.check(0, 41302), 0);
        due.says("3 ACROSS: of two creases of one place");
        // Creases 0 and 4 come from below, but to the places 1 and 3.
        due.is("two places", withStrip(1, 1, 3, 1, 1, 1).check(0, 235140), 0);
        due.says("of a strip, or corner");
        due.is("a corner's last crease", withCorner(1, 1, 1, 1).check(0, 3201), 30103);
        due.says("of a map any two of one place");
        // The first faces of creases 0 and 1 are 0, with its front up, and 2, with its front down.
        due.is("fronts up and down", withMap(2, 2).check(0, 3120), 30001);
        due.is("rows", withMap(2, 2).check(0, 3210), 30203);
        due.is("in one row", withMap(1, 4).check(0, 3120), 30002);
        // Creases 0 and 6 cross, but one is between columns and one between rows.
        due.is("columns and rows are two places", withMap(2, 3).check(0, 354120), 0);
    }

    private static void theLeast() {
        due.says("THE LEAST of several orders is that whose lowest face has the least number, of these the one with the least face above it, and so on.");
        CreaseFlat x = withStrip(1, 1, 1);
        // As rows: 0 1 2, 0 2 1, 1 0 2, 1 2 0, 2 0 1, 2 1 0.
        long[] rows = {210, 120, 201, 21, 102, 12};
        for (int k = 0; k < 6; k++) {
            due.is("order " + k, x.order(0, k), rows[k]);
        }
        due.says("AN ORDER AS A NUMBER has a face in each decimal digit, the lowest face as the lowest digit.");
        x.mark(0, 0, MOUNTAIN);
        x.mark(0, 1, VALLEY);
        // The row 2 1 0 is left alone, and its topmost face is a 0 ahead of the other digits.
        due.is("face 0 topmost", x.order(0, 0), 12);
        due.is("read as such", x.check(0, 12), 0);
        due.is("read the other way round it would be", x.check(0, 210), 10000);
        due.is("one face", withStrip(5).order(0, 0), 0);
        due.is("nine faces", withStrip(1, 1, 1, 1, 1, 1, 1, 1, 1).order(0, 0), 876543210L);
    }

    // ---- as it lies

    private static void lies(CreaseFlat x, int paper, int face, int... want) {
        for (int what = 0; what < 4; what++) {
            due.is("lies " + paper + " " + face + " " + what, x.lies(paper, face, what), want[what]);
        }
    }

    private static void liesFlatAtFirst() {
        due.says("A PAPER LIES, at first flat: no crease is folded.");
        CreaseFlat x = withStrip(2, 1000, 4);
        lies(x, 0, 0, 0, 1, 1, 0);
        lies(x, 0, 1, 2, 1, 1, 0);
        lies(x, 0, 2, 1002, 1, 1, 0);
        due.is("nothing to flatten", x.flatten(0), 0);
        x.map(3, 3);
        for (int f = 0; f < 9; f++) {
            lies(x, 1, f, f % 3, 1, 1, f / 3);
        }
        due.is("nothing to flatten on a map", x.flatten(1), 0);
    }

    private static void liesAsFolded() {
        due.says("Face 0 lies from place 0 upwards, its front up; a face behind a crease that is not folded goes on as the one before, one behind a folded crease goes the other way, its front turned.");
        CreaseFlat x = withStrip(2, 3, 4, 1);
        due.is("crease 0", x.fold(0, 8), 1);
        lies(x, 0, 0, 0, 1, 1, 0);
        lies(x, 0, 1, 2, 0, 0, 0);
        lies(x, 0, 2, -1, 0, 0, 0);
        lies(x, 0, 3, -5, 0, 0, 0);
        due.is("crease 2", x.fold(0, -20), 1);
        lies(x, 0, 0, 0, 1, 1, 0);
        lies(x, 0, 2, -1, 0, 0, 0);
        lies(x, 0, 3, -5, 1, 1, 0);
        due.is("crease 1", x.fold(0, -4), 1);
        lies(x, 0, 0, 0, 1, 1, 0);
        lies(x, 0, 1, 2, 0, 0, 0);
        lies(x, 0, 2, -1, 1, 1, 0);
        lies(x, 0, 3, 3, 0, 0, 0);
    }

    private static void mapsLie() {
        due.says("between columns c and c + 1 all creases of all rows are folded, or none");
        due.is("three rows", withMap(3, 2).fold(0, 4), 3);
        due.is("two rows", withMap(2, 3).fold(0, 8), 2);
        due.is("three columns", withMap(2, 3).fold(0, 6), 3);
        due.is("nine rows of one column", withMap(9, 1).fold(0, 34), 1);
        due.says("A map's COLUMNS lie so, and its ROWS, each as a strip of lengths 1");
        CreaseFlat x = withMap(3, 3);
        x.fold(0, 4);
        for (int f = 0; f < 9; f++) {
            lies(x, 0, f, new int[] {0, 1, 0}[f % 3], f % 3 == 0 ? 1 : 0, f % 3 == 0 ? 1 : 0, f / 3);
        }
        due.says("a square's front is turned by the folded ones between columns up to its column, and between rows up to its row");
        x.fold(0, 10);
        for (int f = 0; f < 9; f++) {
            boolean turnedOnce = f % 3 != 0 ^ f / 3 == 2;
            lies(x, 0, f, new int[] {0, 1, 0}[f % 3], f % 3 == 0 ? 1 : 0, turnedOnce ? 0 : 1, f / 3);
        }
        x.fold(0, 6);
        x.fold(0, 0);
        due.is("all is folded", x.flatten(0), 12);
        for (int f = 0; f < 9; f++) {
            lies(x, 0, f, f % 3, 1, 1, f / 3);
        }
    }

    private static void howItCameToLieSo() {
        due.says("(So where things lie is told by which creases are folded, and the paper is turned round and over when need be.)");
        CreaseFlat x = withMap(3, 3);
        x.map(3, 3);
        for (int step : new int[] {4, 0, 6}) {
            x.fold(0, step);
        }
        for (int step : new int[] {7, 9, 5}) {
            x.fold(1, step);
        }
        for (int f = 0; f < 9; f++) {
            lies(x, 1, f, x.lies(0, f, 0), x.lies(0, f, 1), x.lies(0, f, 2), x.lies(0, f, 3));
        }
        due.says("All creases are folded.");
        for (int turn = 0; turn < 2; turn++) {
            due.is("orders, however it lies", x.orders(0), 1368);
            due.is("place, however it lies", x.crease(0, 11, 3), 3);
            due.is("least order, however it lies", x.order(0, 0), withMap(3, 3).order(0, 0));
            x.flatten(0);
        }
    }

    // ---- simple folds

    private static void someCreaseLiesThere() {
        due.says("It CAN BE DONE, if some crease that is not folded lies at the place");
        CreaseFlat x = withStrip(2, 2, 2);
        due.is("at the paper's lower end", x.fold(0, 0), 0);
        due.is("at its upper end", x.fold(0, 24), 0);
        due.is("beyond it", x.fold(0, 28), 0);
        due.is("below it", x.fold(0, -4), 0);
        due.is("at a crease", x.fold(0, 8), 1);
        due.is("it is folded now", x.fold(0, 8), 0);
        due.is("under neither", x.fold(0, 9), 0);
        due.is("the other one has gone elsewhere", x.fold(0, 16), 0);
        due.is("namely to 0", x.fold(0, 0), 1);
        due.is("nothing is left", x.fold(0, 0), 0);
        due.is("strip of one face", withStrip(9).fold(0, 0), 0);
        due.is("strip of one face, its end", withStrip(9).fold(0, 36), 0);
        due.is("map of one square", withMap(1, 1).fold(0, 4), 0);
        due.is("map of one square, rows", withMap(1, 1).fold(0, 6), 0);
    }

    private static void noFaceHasItWithin() {
        due.says("no face (of a strip) has the place within it");
        CreaseFlat x = withStrip(3, 1, 3);
        x.fold(0, 12);
        due.is("face 0 goes over it", x.fold(0, 8), 0);
        CreaseFlat y = withStrip(3, 3, 3);
        y.fold(0, 12);
        due.is("face 0 begins there", y.fold(0, 0), 1);
        CreaseFlat z = withStrip(2, 1, 1);
        z.fold(0, 8);
        due.is("face 0 goes over it", z.fold(0, 4), 0);
        z.length(0, 1, 2);
        due.is("no longer", z.fold(0, 0), 1);
        // Face 3 lies from 5 down to 1, where crease 0 is, and over crease 1, which is at 2.
        CreaseFlat w = withStrip(1, 1, 3, 4);
        due.is("crease 2 first", w.fold(0, 20), 1);
        due.is("a turned face goes over it", w.fold(0, 8), 0);
        due.is("a turned face ends there", w.fold(0, 4), 1);
    }

    private static void whatMarksSay() {
        due.says("all creases there that are not folded become what their MARKS say");
        CreaseFlat x = withStrip(1, 1, 1, 1);
        x.fold(0, 8);
        // Creases 0 and 2 lie at 1, the first face of 0 with its front up, that of 2 with its front down.
        marks(x, 0, VALLEY, 0, VALLEY);
        due.is("one says over, one under: over", x.fold(0, 4), 0);
        due.is("one says over, one under: under", x.fold(0, 5), 0);
        due.is("none of both is folded", x.flatten(0), 1);
        x.fold(0, 8);
        x.mark(0, 2, MOUNTAIN);
        due.is("both say over: under", x.fold(0, 5), 0);
        due.is("both say over: over", x.fold(0, 4), 2);
        // Crease 0 is folded and lies at 1; crease 2 comes there as the last one.
        CreaseFlat y = withStrip(1, 1, 1, 1);
        y.fold(0, 4);
        y.fold(0, 0);
        y.mark(0, 0, MOUNTAIN);
        due.is("what a folded crease is marked does not count", y.fold(0, 4), 1);
        // All four creases of one line lie at one place.
        CreaseFlat m = withMap(4, 2);
        m.mark(0, 3, MOUNTAIN);
        due.is("the mark of one row's crease counts for all", m.fold(0, 4), 0);
        due.is("the other way", m.fold(0, 5), 4);
    }

    private static void overAndUnder() {
        due.says("OVER a crease becomes a VALLEY, if the front of its first face is up as it lies, else a MOUNTAIN; UNDER the other way round.");
        int[][] dueFolds = {{1, 1}, {0, 1}, {1, 0}};
        for (int m = 0; m <= 2; m++) {
            for (int under = 0; under <= 1; under++) {
                CreaseFlat x = withStrip(1, 1);
                x.mark(0, 0, m);
                due.is("front up, mark " + m + ", under " + under, x.fold(0, 4 + under), dueFolds[m][under]);
                CreaseFlat y = withStrip(1, 1, 1);
                y.fold(0, 4);
                y.mark(0, 1, m);
                due.is("front down, mark " + m + ", under " + under, y.fold(0, under), dueFolds[m][1 - under]);
                CreaseFlat z = withMap(2, 2);
                z.fold(0, 4);
                z.mark(0, 3, m);
                // Crease 3 is behind face 1, which is turned; crease 2, behind face 0, takes what comes.
                due.is("map, front down, mark " + m + ", under " + under, z.fold(0, 6 + under), 2 * dueFolds[m][1 - under]);
            }
        }
    }

    private static void foldAsNumber() {
        due.says("As a number it is 4 times the place, 2 more if it is of rows, 1 more if it is UNDER.");
        for (int step = -12; step <= 40; step++) {
            boolean of = step == 8 || step == 9 || step == 4 || step == 5 || step == 6 || step == 7;
            due.is("map 2 by 3, step " + step, withMap(2, 3).fold(0, step), !of ? 0 : step == 6 || step == 7 ? 3 : 2);
            due.is("strip, step " + step, withStrip(3, 5).fold(0, step), step == 12 || step == 13 ? 1 : 0);
            CreaseFlat x = withStrip(1, 3, 1);
            x.fold(0, 4);
            due.is("strip below 0, step " + step, x.fold(0, step), step == -8 || step == -7 ? 1 : 0);
        }
        due.is("the least number", withStrip(3, 5).fold(0, MIN), 0);
        due.is("the greatest number", withStrip(3, 5).fold(0, MAX), 0);
        due.is("4 times a place, wrapped round", withStrip(3, 5).fold(0, 12 + (1 << 31)), 0);
        // The furthest places that there are: 8000 upwards, 6000 downwards.
        due.is("furthest up", withStrip(all(9, 1000)).fold(0, 32000), 1);
        CreaseFlat down = withStrip(all(9, 1000));
        down.fold(0, 4000);
        due.is("furthest down", down.fold(0, -24000), 1);
        due.says("A SIMPLE FOLD (of strips, maps)");
        due.is("not of a corner", withCorner(1, 1, 1, 1).fold(0, 4), STATE);
    }

    public static void main(String[] args) {
        thirtyPapers();
        marksAtFirst();
        stripFaces();
        stripLengths();
        stripPlaces();
        stripFronts();
        cornerFaces();
        cornerAngles();
        cornerPlacesAndFronts();
        even();
        nineSquares();
        numbersOnMaps();
        mapFronts();
        mapPlaces();
        ruleMarks();
        ruleThrough();
        ruleAcross();
        theLeast();
        liesFlatAtFirst();
        liesAsFolded();
        mapsLie();
        howItCameToLieSo();
        someCreaseLiesThere();
        noFaceHasItWithin();
        whatMarksSay();
        overAndUnder();
        foldAsNumber();
        due.end();
    }
}
