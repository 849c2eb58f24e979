/** The sentences of 'Promise 1' to 'Promise 25' that name a boundary case, each with a test of its own. */
public final class EdgesTest extends Sheets {
    private static final Due due = new Due("EdgesTest");
    private static final int[] FAR = {MIN, -2, -1, 0, 1, 2, 8, 9, 12, 30, 1000, MAX};

    private static void promise1() {
        due.says("1: No papers");
        CreaseFlat x = new CreaseFlat();
        for (int p : FAR) {
            due.is("about " + p, x.about(p, 0), UNKNOWN);
            due.is("orders " + p, x.orders(p), UNKNOWN);
        }
        due.says("1: nothing told");
        for (int i : FAR) {
            due.is("layer " + i, x.layer(i), STATE);
            due.is("turned " + i, x.turned(i), STATE);
            due.is("inClash " + i, x.inClash(i), NONE);
            due.is("step " + i, x.step(i), STATE);
        }
        due.is("the first paper is 0", x.strip(1), 0);
        due.is("another object has no part in it", new CreaseFlat().about(0, 0), UNKNOWN);
    }

    private static void promise2() {
        due.says("2: its number. OUTSIDE (1 .. 9), ROOM.");
        CreaseFlat x = new CreaseFlat();
        due.is("one too few", x.strip(0), OUTSIDE);
        due.is("the fewest", x.strip(1), 0);
        due.is("the most", x.strip(9), 1);
        due.is("one too many", x.strip(10), OUTSIDE);
        due.is("below 0", x.strip(-1), OUTSIDE);
        due.is("a refused one takes no number", x.strip(5), 2);
        for (int n = 3; n < 30; n++) {
            due.is("number", x.strip(2), n);
        }
        due.is("full", x.strip(1), ROOM);
        due.is("full and outside", x.strip(0), OUTSIDE);
    }

    private static void promise3() {
        due.says("3: its number. OUTSIDE (2 .. 9), ROOM.");
        CreaseFlat x = new CreaseFlat();
        due.is("one too few", x.corner(1), OUTSIDE);
        due.is("the fewest", x.corner(2), 0);
        due.is("the most", x.corner(9), 1);
        due.is("one too many", x.corner(10), OUTSIDE);
        due.is("below 0", x.corner(-2), OUTSIDE);
        due.is("a refused one takes no number", x.corner(5), 2);
        for (int n = 3; n < 30; n++) {
            due.is("number", x.corner(2), n);
        }
        due.is("full", x.corner(2), ROOM);
        due.is("full and outside", x.corner(1), OUTSIDE);
    }

    private static void promise4() {
        due.says("4: its number. OUTSIDE (rows, columns 1 at least, 9 squares at most), ROOM.");
        CreaseFlat x = new CreaseFlat();
        due.is("no row", x.map(0, 1), OUTSIDE);
        due.is("no column", x.map(1, 0), OUTSIDE);
        due.is("below 0, though nine together", x.map(-3, -3), OUTSIDE);
        due.is("the fewest", x.map(1, 1), 0);
        due.is("nine in a row", x.map(1, 9), 1);
        due.is("nine in a column", x.map(9, 1), 2);
        due.is("nine in a square", x.map(3, 3), 3);
        due.is("eight", x.map(4, 2), 4);
        due.is("ten in a row", x.map(1, 10), OUTSIDE);
        due.is("ten in a column", x.map(10, 1), OUTSIDE);
        due.is("ten", x.map(2, 5), OUTSIDE);
        due.is("ten", x.map(5, 2), OUTSIDE);
        due.is("twelve", x.map(3, 4), OUTSIDE);
        for (int n = 5; n < 30; n++) {
            due.is("number", x.map(1, 2), n);
        }
        due.is("full", x.map(1, 1), ROOM);
        due.is("full and outside", x.map(1, 10), OUTSIDE);
    }

    private static void promise5() {
        due.says("5: A face's length, or angle: what it had.");
        CreaseFlat x = withStrip(1, 1);
        x.corner(9);
        x.map(1, 1);
        due.is("at first", x.length(0, 1, 1000), 1);
        due.is("then", x.length(0, 1, 1000), 1000);
        due.is("again", x.length(0, 1, 3), 1000);
        due.is("the other face is not touched", x.length(0, 0, 1), 1);
        due.is("an angle", x.length(1, 8, 4), 1);
        due.is("then", x.length(1, 8, 4), 4);
        due.says("5: UNKNOWN, OUTSIDE (1 .. 1000), STATE (a map).");
        due.is("0", x.length(0, 0, 0), OUTSIDE);
        due.is("1", x.length(0, 0, 1), 1);
        due.is("1000", x.length(0, 0, 1000), 1);
        due.is("1001", x.length(0, 0, 1001), OUTSIDE);
        due.is("no face 2", x.length(0, 2, 1), UNKNOWN);
        due.is("no face 9", x.length(1, 9, 1), UNKNOWN);
        due.is("a map of one square", x.length(2, 0, 1), STATE);
        due.is("a map, 1000", x.length(2, 0, 1000), STATE);
        due.is("a map, 1001", x.length(2, 0, 1001), OUTSIDE);
        due.is("a map, no face 1", x.length(2, 1, 1), UNKNOWN);
    }

    private static void promise6() {
        due.says("6: A crease's MARK: what it had. UNKNOWN, OUTSIDE (0 .. 2).");
        CreaseFlat x = withStrip(1);
        x.strip(2);
        x.corner(2);
        x.map(3, 3);
        due.is("one face has no crease", x.mark(0, 0, 1), UNKNOWN);
        due.is("two faces have one", x.mark(1, 0, 1), 0);
        due.is("and no more", x.mark(1, 1, 1), UNKNOWN);
        due.is("a corner of two has two", x.mark(2, 1, 2), 0);
        due.is("and no more", x.mark(2, 2, 2), UNKNOWN);
        due.is("a map has twelve at most", x.mark(3, 11, 2), 0);
        due.is("and no more", x.mark(3, 12, 2), UNKNOWN);
        due.is("-1", x.mark(3, 11, -1), OUTSIDE);
        due.is("3", x.mark(3, 11, 3), OUTSIDE);
        due.is("0", x.mark(3, 11, 0), 2);
        due.is("2", x.mark(3, 11, 2), 0);
        due.is("1", x.mark(3, 11, 1), 2);
        due.is("the same again", x.mark(3, 11, 1), 1);
        due.is("its neighbour is not touched", x.mark(3, 10, 1), 0);
    }

    private static void promise7() {
        due.says("7: what = 0 its kind (0 strip, 1 corner, 2 map)");
        CreaseFlat x = withStrip(5);
        x.corner(9);
        x.map(3, 3);
        int[] faces = {1, 9, 9}, creases = {0, 9, 12};
        for (int p = 0; p < 3; p++) {
            due.is("kind", x.about(p, 0), p);
            due.is("faces", x.about(p, 1), faces[p]);
            due.is("creases", x.about(p, 2), creases[p]);
            due.is("one too small", x.about(p, -1), OUTSIDE);
            due.is("one too great", x.about(p, 6), OUTSIDE);
        }
        due.says("7: 3 mountains marked, 4 valleys marked");
        marks(x, 2, all(12, MOUNTAIN));
        due.is("all mountains", x.about(2, 3), 12);
        due.is("no valley", x.about(2, 4), 0);
        marks(x, 2, all(12, VALLEY));
        due.is("no mountain", x.about(2, 3), 0);
        due.is("all valleys", x.about(2, 4), 12);
        marks(x, 2, all(12, 0));
        due.is("no mountain again", x.about(2, 3), 0);
        due.is("no valley again", x.about(2, 4), 0);
        x.mark(1, 8, VALLEY);
        due.is("a corner's last crease", x.about(1, 4), 1);
        due.says("7: 5 of a corner: angles of faces 0, 2, .. less those of 1, 3, .. (0 of others)");
        due.is("nine equal angles", x.about(1, 5), 1);
        lengths(x, 1, 1000, 1, 1000, 1, 1000, 1, 1000, 1, 1000);
        due.is("the greatest", x.about(1, 5), 4996);
        lengths(x, 1, 1, 1000, 1, 1000, 1, 1000, 1, 1000, 1);
        due.is("the least", x.about(1, 5), -3995);
        due.is("of a strip", x.about(0, 5), 0);
        due.is("of a map", x.about(2, 5), 0);
        due.is("of a strip of two lengths", withStrip(7, 3).about(0, 5), 0);
    }

    private static void promise8() {
        due.says("8: what = 0 its FIRST face, 1 its SECOND, 2 its MARK, 3 its PLACE when all is folded. UNKNOWN, OUTSIDE.");
        CreaseFlat x = withCorner(4, 9);
        x.mark(0, 1, VALLEY);
        due.is("first", x.crease(0, 1, 0), 1);
        due.is("second, round to face 0", x.crease(0, 1, 1), 0);
        due.is("mark", x.crease(0, 1, 2), VALLEY);
        due.is("place", x.crease(0, 1, 3), -5);
        due.is("one too small", x.crease(0, 1, -1), OUTSIDE);
        due.is("one too great", x.crease(0, 1, 4), OUTSIDE);
        due.is("no crease 2", x.crease(0, 2, 0), UNKNOWN);
        due.is("no crease -1", x.crease(0, -1, 0), UNKNOWN);
        due.says("8: its PLACE when all is folded");
        CreaseFlat flat = withStrip(3, 1, 2);
        due.is("of a paper that lies flat", flat.crease(0, 1, 3), 2);
        flat.fold(0, 12);
        due.is("of one that is folded", flat.crease(0, 1, 3), 2);
    }

    private static void promise9() {
        due.says("9: Whether there is an allowed order: 1, and the least one is told from now on");
        CreaseFlat x = withStrip(1);
        due.is("one face", x.judge(0), 1);
        due.is("told", x.layer(0), 0);
        x.strip(9);
        due.is("nine faces", x.judge(1), 1);
        for (int h = 0; h < 9; h++) {
            due.is("the least", x.layer(h), h);
        }
        x.mark(1, 0, MOUNTAIN);
        due.is("told until the next one", x.layer(0), 0);
        due.is("marked", x.judge(1), 1);
        due.is("face 1 must be below face 0", x.layer(0), 1);
        due.is("then the least that is left", x.layer(1), 0);
        due.says("9: 0 (what was told stays)");
        x.corner(3);
        due.is("none", x.judge(2), 0);
        due.is("told still", x.layer(0), 1);
        due.is("of nine faces still", x.layer(8), 8);
        due.is("its creases still", x.turned(7), MOUNTAIN);
        CreaseFlat y = withCorner(1, 2);
        due.is("none", y.judge(0), 0);
        due.is("none was told", y.layer(0), STATE);
        y.length(0, 1, 1);
        due.is("even", y.judge(0), 1);
        y.length(0, 1, 2);
        due.is("uneven again", y.judge(0), 0);
        due.is("what was told stays", y.layer(1), 1);
    }

    private static void promise10() {
        due.says("10: STATE (none was told)");
        CreaseFlat x = withStrip(1, 1, 1);
        x.corner(3);
        for (int h : FAR) {
            due.is("layer " + h, x.layer(h), STATE);
        }
        x.judge(1);
        x.order(0, 0);
        x.orders(0);
        for (int h : FAR) {
            due.is("none was told by calls that tell none, layer " + h, x.layer(h), STATE);
        }
        due.says("10: The face at a height (0 the lowest) of the order told last. STATE (none was told), OUTSIDE.");
        marks(x, 0, MOUNTAIN, VALLEY);
        x.judge(0);
        due.is("below the lowest", x.layer(-1), OUTSIDE);
        due.is("the lowest", x.layer(0), 2);
        due.is("the middle", x.layer(1), 1);
        due.is("the topmost", x.layer(2), 0);
        due.is("above it", x.layer(3), OUTSIDE);
        x.strip(2);
        x.judge(2);
        due.is("another paper's topmost", x.layer(1), 1);
        due.is("above it, though the first paper had more", x.layer(2), OUTSIDE);
    }

    private static void promise11() {
        due.says("11: STATE (none was told)");
        CreaseFlat x = withCorner(1, 2);
        x.map(3, 3);
        for (int c : FAR) {
            due.is("turned " + c, x.turned(c), STATE);
        }
        x.judge(0);
        due.is("an answer of 0 tells none", x.turned(0), STATE);
        due.says("11: UNKNOWN (that paper has no such crease)");
        x.length(0, 1, 1);
        x.judge(0);
        due.is("crease -1", x.turned(-1), UNKNOWN);
        due.is("crease 0", x.turned(0), VALLEY);
        due.is("the last one", x.turned(1), VALLEY);
        due.is("the map has a crease 2, that paper has none", x.turned(2), UNKNOWN);
        x.judge(1);
        due.holds("the last one of the map", x.turned(11) == MOUNTAIN || x.turned(11) == VALLEY);
        due.is("no more", x.turned(12), UNKNOWN);
        x.strip(1);
        x.judge(2);
        due.is("a paper without creases", x.turned(0), UNKNOWN);
        due.says("11: What a crease is in the order told last (of the paper as it is now)");
        CreaseFlat y = withStrip(1, 1, 1);
        y.judge(0);
        due.is("second above a front that is up", y.turned(0), VALLEY);
        due.is("second above a front that is down", y.turned(1), MOUNTAIN);
        marks(y, 0, MOUNTAIN, VALLEY);
        lengths(y, 0, 5, 1, 5);
        y.fold(0, 20);
        due.is("as the order has it, whatever the mark is now", y.turned(0), VALLEY);
        due.is("as the order has it, whatever the length is now", y.turned(1), MOUNTAIN);
    }

    private static void promise12() {
        due.says("12: How many orders are allowed.");
        due.is("one face", withStrip(1000).orders(0), 1);
        due.is("one square", withMap(1, 1).orders(0), 1);
        due.is("two faces", withStrip(1, 1000).orders(0), 2);
        due.is("a corner of two", withCorner(9, 9).orders(0), 2);
        due.is("none: not even", withCorner(9, 8).orders(0), 0);
        CreaseFlat x = withMap(2, 2);
        marks(x, 0, all(4, MOUNTAIN));
        due.is("none: marks that clash", x.orders(0), 0);
        due.is("nine faces", withStrip(all(9, 1)).orders(0), 4536);
        due.is("nine faces of the greatest length", withStrip(all(9, 1000)).orders(0), 4536);
        due.is("nine squares", withMap(3, 3).orders(0), 1368);
        CreaseFlat y = withStrip(all(9, 1));
        marks(y, 0, VALLEY, VALLEY, VALLEY, VALLEY, VALLEY, VALLEY, VALLEY, VALLEY);
        due.holds("rolled up", y.orders(0) > 1);
        marks(y, 0, VALLEY, MOUNTAIN, VALLEY, MOUNTAIN, VALLEY, MOUNTAIN, VALLEY, MOUNTAIN);
        due.is("to and fro", y.orders(0), 1);
    }

    private static void promise13() {
        due.says("13: The k-th allowed order (from 0, the least first) as a number. UNKNOWN, OUTSIDE.");
        CreaseFlat x = withStrip(all(9, 1));
        due.is("below the first", x.order(0, -1), OUTSIDE);
        due.is("the first", x.order(0, 0), 876543210L);
        due.is("the last", x.order(0, 4535), 12345678L);
        due.is("behind the last", x.order(0, 4536), OUTSIDE);
        due.is("the greatest k", x.order(0, MAX), OUTSIDE);
        due.is("the least k", x.order(0, MIN), OUTSIDE);
        due.is("more than an int can hold, as a row", withStrip(all(9, 1)).check(0, 4294967296L), OUTSIDE);
        due.is("one face", withStrip(1).order(0, 0), 0);
        due.is("one face, no more", withStrip(1).order(0, 1), OUTSIDE);
        due.is("none at all", withCorner(1, 2).order(0, 0), OUTSIDE);
        for (int k = 0; k < 100; k++) {
            due.is("each is allowed", x.check(0, x.order(0, 45 * k)), 0);
        }
    }

    private static void promise14Row() {
        due.says("14: OUTSIDE (it is no row of all faces)");
        CreaseFlat x = withStrip(1, 1, 1);
        due.is("a row", x.check(0, 210), 0);
        due.is("a row whose topmost face is 0", x.check(0, 21), 0);
        due.is("a face too few", x.check(0, 10), OUTSIDE);
        due.is("two faces too few", x.check(0, 1), OUTSIDE);
        due.is("a face twice", x.check(0, 211), OUTSIDE);
        due.is("a face that is not there", x.check(0, 310), OUTSIDE);
        due.is("a digit more, of a face", x.check(0, 1210), OUTSIDE);
        due.is("a digit more, of no face", x.check(0, 3210), OUTSIDE);
        due.is("a digit further", x.check(0, 10210), OUTSIDE);
        due.is("below 0", x.check(0, -210), OUTSIDE);
        due.is("below 0, by one", x.check(0, -1), OUTSIDE);
        due.is("cut off to an int it would be one", x.check(0, (1L << 32) + 210), OUTSIDE);
        due.is("the greatest", x.check(0, Long.MAX_VALUE), OUTSIDE);
        due.is("the least", x.check(0, Long.MIN_VALUE), OUTSIDE);
        CreaseFlat nine = withStrip(all(9, 1));
        due.is("nine faces", nine.check(0, 876543210L), 0);
        due.is("nine faces, 0 topmost", nine.check(0, 12345678L), 0);
        due.is("nine faces, one twice", nine.check(0, 876543211L), OUTSIDE);
        due.is("nine faces have no 9", nine.check(0, 976543210L), OUTSIDE);
        due.is("ten digits", nine.check(0, 1876543210L), OUTSIDE);
        due.is("one face", withStrip(1).check(0, 0), 0);
        due.is("one face, of no such number", withStrip(1).check(0, 1), OUTSIDE);
        due.is("one face, a digit more", withStrip(1).check(0, 10), OUTSIDE);
        due.is("not even, and no row", withCorner(1, 2).check(0, 11), OUTSIDE);
    }

    private static void promise14Answers() {
        due.says("14: 40000 for a corner that is not EVEN");
        CreaseFlat c = withCorner(1, 2);
        c.mark(0, 0, VALLEY);
        due.is("breaking no rule", c.check(0, 10), 40000);
        due.is("breaking one", c.check(0, 1), 40000);
        due.is("odd", withCorner(1, 2, 1).check(0, 210), 40000);
        due.says("14: else the first RULE that is broken");
        // The row 0 2 1 3 breaks ACROSS by creases 0 and 2, and turns crease 2 into a valley.
        CreaseFlat x = withStrip(1, 1, 1, 1);
        due.is("ACROSS alone", x.check(0, 3120), 30002);
        x.mark(0, 2, MOUNTAIN);
        due.is("MARKS ahead of ACROSS", x.check(0, 3120), 10200);
        CreaseFlat y = withStrip(1, 1, 2);
        due.is("THROUGH alone", y.check(0, 120), 20002);
        y.mark(0, 1, MOUNTAIN);
        due.is("MARKS ahead of THROUGH, though of a greater crease", y.check(0, 120), 10100);
        CreaseFlat w = withStrip(1, 1, 1, 1, 1, 3, 5);
        due.is("ACROSS alone", w.check(0, 6543120L), 30002);
        due.is("THROUGH ahead of ACROSS, though of a greater crease", w.check(0, 5643120L), 20406);
        due.says("14: 10000 and 100 times the crease for MARKS");
        CreaseFlat m = withMap(3, 3);
        long row = m.order(0, 0);
        m.judge(0);
        for (int k = 0; k < 12; k++) {
            m.mark(0, k, 3 - m.turned(k));
            due.is("the crease " + k, m.check(0, row), 10000 + 100 * k);
            m.mark(0, k, m.turned(k));
            due.is("it is as marked", m.check(0, row), 0);
        }
        promise14Numbers();
        due.says("14: of one rule the least such number");
        marks(m, 0, 0, 0, 0, 0, 0, 3 - m.turned(5), 0, 3 - m.turned(7));
        due.is("of two creases the lesser", m.check(0, row), 10500);
        CreaseFlat z = withStrip(5, 5, 9, 9);
        due.is("of two faces the lesser", z.check(0, 1230), 20002);
        CreaseFlat u = withStrip(1, 1, 1, 1, 1, 1);
        // The row 0 2 4 1 3 5: creases 0, 2 and 4 cross one another.
        due.is("of three pairs the least", u.check(0, 531420), 30002);
        // The row 0 1 2 4 3 5: creases 2 and 4 cross.
        due.is("a crease and the other one (the greater)", u.check(0, 534210), 30204);
    }

    private static void promise14Numbers() {
        due.says("14: 20000, 100 times the crease and the face for THROUGH");
        // The row 0 1 2 3 4 5 7 6 8, and face 6 goes from -8 to 1, over the place 0 of crease 7.
        due.is("the last crease", withStrip(1, 1, 1, 1, 1, 9, 9, 1, 1).check(0, 867543210L), 20706);
        // The row 0 2 3 4 5 6 7 8 1, and face 8 goes from -1 to 999, over the place 1 of crease 0.
        due.is("the last face", withStrip(1, 1, 1, 1, 1, 1, 1, 2, 1000).check(0, 187654320L), 20008);
        due.is("the first face", withStrip(3, 1, 3).check(0, 201), 20100);
        due.says("14: 30000, 100 times a crease and the other one (the greater) for ACROSS");
        // The row 0 1 2 5 4 3 6 8 7: of all creases, 10 (faces 4, 7) and 11 (faces 5, 8) cross.
        due.is("the last two creases", withMap(3, 3).check(0, 786345210L), 31011);
        due.is("the first two creases", withMap(2, 2).check(0, 3120), 30001);
        due.is("the lesser one ahead, though its faces lie higher", withStrip(1, 1, 1, 1).check(0, 1302), 30002);
    }

    private static void promise15() {
        due.says("15: What a crease is in all allowed orders: 1, 2; 3 both are met; 0 there is none.");
        CreaseFlat x = withStrip(3, 1, 3);
        due.is("both are met", x.forced(0, 0), 3);
        due.is("both are met", x.forced(0, 1), 3);
        x.mark(0, 0, VALLEY);
        due.is("its mark", x.forced(0, 0), VALLEY);
        due.is("by another one's mark", x.forced(0, 1), MOUNTAIN);
        x.mark(0, 0, MOUNTAIN);
        due.is("its mark", x.forced(0, 0), MOUNTAIN);
        due.is("by another one's mark", x.forced(0, 1), VALLEY);
        x.mark(0, 1, MOUNTAIN);
        due.is("there is none", x.forced(0, 0), 0);
        due.is("there is none", x.forced(0, 1), 0);
        CreaseFlat c = withCorner(1, 2);
        due.is("there is none: not even", c.forced(0, 1), 0);
        c.length(0, 1, 1);
        due.is("even", c.forced(0, 1), 3);
        c.mark(0, 0, VALLEY);
        due.is("the last one as the other", c.forced(0, 1), VALLEY);
        due.is("no crease 2", c.forced(0, 2), UNKNOWN);
        due.is("no crease -1", c.forced(0, -1), UNKNOWN);
        due.is("one face has no crease", withStrip(1).forced(0, 0), UNKNOWN);
    }

    private static void promise16() {
        due.says("16: 1 the one face lies above the other one, -1 below, 0 both are met; 2 there is none, or both are one face.");
        CreaseFlat x = withStrip(1, 1);
        due.is("both are met", x.above(0, 0, 1), 0);
        x.mark(0, 0, VALLEY);
        due.is("above", x.above(0, 1, 0), 1);
        due.is("below", x.above(0, 0, 1), -1);
        due.is("both are one face", x.above(0, 0, 0), 2);
        due.is("both are the last face", x.above(0, 1, 1), 2);
        due.is("no face 2", x.above(0, 2, 0), UNKNOWN);
        due.is("no face 2", x.above(0, 0, 2), UNKNOWN);
        due.is("both are one face that is not there", x.above(0, 2, 2), UNKNOWN);
        due.is("no face -1", x.above(0, -1, 0), UNKNOWN);
        due.is("no face -1", x.above(0, 0, -1), UNKNOWN);
        due.is("there is none", withCorner(1, 2).above(0, 0, 1), 2);
        due.is("there is none, and both are one face", withCorner(1, 2).above(0, 1, 1), 2);
    }

    private static void promise17() {
        due.says("17: Whether two papers allow just the same orders: 1, 0 (also if they have not as many faces).");
        CreaseFlat x = withStrip(1, 1);
        x.map(1, 2);
        x.map(2, 1);
        x.corner(2);
        x.strip(1);
        x.corner(3);
        x.strip(3);
        x.corner(5);
        x.map(1, 1);
        due.is("itself", x.alike(0, 0), 1);
        due.is("a map", x.alike(0, 1), 1);
        due.is("rows for columns", x.alike(1, 2), 1);
        due.is("a corner", x.alike(3, 0), 1);
        due.is("of one face", x.alike(4, 8), 1);
        due.is("not as many faces", x.alike(0, 4), 0);
        due.is("not as many faces", x.alike(4, 0), 0);
        due.is("neither has any, nor as many faces", x.alike(5, 7), 0);
        due.is("one has none", x.alike(5, 6), 0);
        due.is("the other has none", x.alike(6, 5), 0);
        x.length(3, 0, 2);
        x.mark(0, 0, VALLEY);
        due.is("one has none, of two faces", x.alike(3, 1), 0);
        due.is("fewer", x.alike(0, 1), 0);
        due.is("more", x.alike(1, 0), 0);
        x.mark(1, 0, MOUNTAIN);
        due.is("as many, but others", x.alike(0, 1), 0);
        x.corner(2);
        x.length(9, 1, 7);
        due.is("both have none, and as many faces", x.alike(3, 9), 1);
        due.is("one that is not there", x.alike(10, 0), UNKNOWN);
        due.is("the other is not there", x.alike(0, 10), UNKNOWN);
    }

    private static void promise18() {
        due.says("18: How many ways there are to mark all creases that have the mark 0, so that some order is allowed.");
        due.is("no crease", withStrip(1).foldings(0), 1);
        due.is("no crease on a map", withMap(1, 1).foldings(0), 1);
        due.is("one crease", withStrip(1, 1).foldings(0), 2);
        due.is("a corner of two: both creases alike", withCorner(1, 1).foldings(0), 2);
        due.is("not even", withCorner(1, 2).foldings(0), 0);
        due.is("eight creases", withStrip(all(9, 1)).foldings(0), 256);
        due.is("twelve creases", withMap(3, 3).foldings(0), foldingsOfNineSquares());
        CreaseFlat x = withStrip(3, 1, 3);
        due.is("both alike cannot be folded", x.foldings(0), 2);
        x.mark(0, 0, VALLEY);
        due.is("one is left to be marked", x.foldings(0), 1);
        x.mark(0, 1, MOUNTAIN);
        due.is("none is left, and an order is allowed", x.foldings(0), 1);
        x.mark(0, 1, VALLEY);
        due.is("none is left, and no order is allowed", x.foldings(0), 0);
        due.is("the marks stay", x.about(0, 4), 2);
    }

    /** Each way to mark twelve creases is tried, with judge alone. */
    private static int foldingsOfNineSquares() {
        int count = 0;
        for (int valleys = 0; valleys < 1 << 12; valleys++) {
            CreaseFlat x = withMap(3, 3);
            for (int c = 0; c < 12; c++) {
                x.mark(0, c, (valleys >> c & 1) != 0 ? VALLEY : MOUNTAIN);
            }
            count += x.judge(0);
        }
        return count;
    }

    private static void clashIs(CreaseFlat x, int paper, int... want) {
        due.is("clash", x.clash(paper), want.length);
        for (int k = 0; k < want.length; k++) {
            due.is("crease " + k + " of it", x.inClash(k), want[k]);
        }
        due.is("none below the first", x.inClash(-1), NONE);
        due.is("none behind the last", x.inClash(want.length), NONE);
    }

    private static void promise19() {
        due.says("19: from the last crease that is marked to the first one, each mark is left out, if without it (and those left out before) still no order is allowed");
        CreaseFlat x = withStrip(3, 1, 3, 1, 3);
        marks(x, 0, VALLEY, VALLEY, VALLEY, VALLEY);
        clashIs(x, 0, 0, 1);
        x.mark(0, 0, MOUNTAIN);
        clashIs(x, 0, 2, 3);
        due.says("19: how many (0: the marks are not to blame, or some order is allowed)");
        x.mark(0, 3, MOUNTAIN);
        clashIs(x, 0);
        CreaseFlat odd = withCorner(1, 2, 1);
        clashIs(odd, 0);
        marks(odd, 0, VALLEY, VALLEY, VALLEY);
        clashIs(odd, 0);
        due.is("the marks themselves stay", odd.about(0, 4), 3);
        due.is("no crease at all", withStrip(1).clash(0), 0);
        due.is("no mark at all", withMap(3, 3).clash(0), 0);
        CreaseFlat two = withCorner(1, 1);
        marks(two, 0, VALLEY, MOUNTAIN);
        due.says("19: the creases that are left are told from now on");
        clashIs(two, 0, 0, 1);
        due.is("the first mark stays", two.crease(0, 0, 2), VALLEY);
        due.is("the last mark stays", two.crease(0, 1, 2), MOUNTAIN);
        two.mark(0, 1, VALLEY);
        due.is("told still, though the paper has changed", two.inClash(1), 1);
        due.is("some order is allowed now", two.clash(0), 0);
        due.is("no crease is told any more", two.inClash(0), NONE);
        due.is("nor the second", two.inClash(1), NONE);
    }

    private static void promise19All() {
        due.says("19: how many");
        CreaseFlat c = withCorner(1, 1, 1, 1, 1, 1, 1, 1);
        marks(c, 0, all(8, MOUNTAIN));
        // Of eight creases at one corner five are of the one kind and three of the other: six are too many.
        clashIs(c, 0, 0, 1, 2, 3, 4, 5);
        CreaseFlat m = withMap(3, 3);
        marks(m, 0, all(12, VALLEY));
        int left = m.clash(0);
        due.holds("some are left", left > 0 && left <= 12);
        for (int k = 1; k < left; k++) {
            due.holds("the least first", m.inClash(k - 1) < m.inClash(k));
        }
        due.is("no more", m.inClash(left), NONE);
    }

    private static void promise20() {
        due.says("20: The k-th crease of THE CLASH told last (from 0, the least first); NONE.");
        CreaseFlat x = withStrip(1, 3, 1, 3);
        for (int k : FAR) {
            due.is("none was told, " + k, x.inClash(k), NONE);
        }
        marks(x, 0, MOUNTAIN, VALLEY, VALLEY);
        due.is("how many", x.clash(0), 2);
        due.is("the first", x.inClash(0), 1);
        due.is("the last", x.inClash(1), 2);
        for (int k : new int[] {MIN, -1, 2, 3, 12, MAX}) {
            due.is("there is none such, " + k, x.inClash(k), NONE);
        }
        x.strip(3);
        lengths(x, 1, 3, 1, 3);
        marks(x, 1, VALLEY, VALLEY);
        due.is("another paper", x.clash(1), 2);
        due.is("told last", x.inClash(0), 0);
        due.is("no such paper", x.clash(2), UNKNOWN);
        due.is("told still", x.inClash(0), 0);
    }

    private static void wayIs(CreaseFlat x, int paper, int... want) {
        due.is("simple", x.simple(paper), want.length);
        for (int i = 0; i < want.length; i++) {
            due.is("step " + i, x.step(i), want[i]);
        }
        due.is("none ahead of the first", x.step(-1), STATE);
        due.is("none behind the last", x.step(want.length), STATE);
    }

    private static void promise21() {
        due.says("21: The least number of SIMPLE FOLDS by which all creases of a paper that lies flat (however it lies now) are folded");
        CreaseFlat x = withStrip(1, 1, 1, 1);
        wayIs(x, 0, 8, 4);
        x.fold(0, 4);
        wayIs(x, 0, 8, 4);
        due.is("it lies as it lay", x.flatten(0), 1);
        wayIs(withStrip(4), 0);
        wayIs(withMap(1, 1), 0);
        wayIs(withStrip(4, 9), 0, 16);
        wayIs(withMap(2, 1), 0, 6);
        // Face 0 aside, the other eight are halved three times.
        wayIs(withStrip(all(9, 1000)), 0, 4000, -12000, -4000, 0);
        due.is("as many folds as creases", withStrip(256, 128, 64, 32, 16, 8, 4, 2, 1).simple(0), 8);
        due.says("21: of several ways the one whose first fold has the least number, of these that with the least second one, and so on");
        wayIs(withStrip(1, 1, 1), 0, 4, 0);
        wayIs(withStrip(1, 2, 1), 0, 4, -4);
        wayIs(withMap(2, 2), 0, 4, 6);
        wayIs(withMap(3, 3), 0, 4, 0, 6, 2);
        promise21Marked();
        due.says("21: NONE if there is no way (what was told stays). UNKNOWN, STATE (a corner).");
        x.strip(3);
        lengths(x, 1, 3, 1, 3);
        due.is("no way", x.simple(1), NONE);
        due.is("told still", x.step(0), 8);
        x.corner(2);
        due.is("a corner", x.simple(2), STATE);
        due.is("told still", x.step(1), 4);
        due.is("no paper", x.simple(3), UNKNOWN);
        due.is("told still", x.step(1), 4);
        x.strip(1);
        due.is("no fold is needed", x.simple(3), 0);
        due.is("that is the way told last", x.step(0), STATE);
    }

    private static void promise21Marked() {
        CreaseFlat strip = withStrip(1, 1);
        strip.mark(0, 0, MOUNTAIN);
        wayIs(strip, 0, 5);
        CreaseFlat rows = withMap(2, 1);
        rows.mark(0, 0, MOUNTAIN);
        wayIs(rows, 0, 7);
        // Columns first would turn face 1, and rows first turn face 2: only rows first fits these marks.
        CreaseFlat map = withMap(2, 2);
        marks(map, 0, MOUNTAIN, VALLEY, MOUNTAIN, MOUNTAIN);
        wayIs(map, 0, 7, 5);
    }

    private static void promise22() {
        due.says("22: The i-th fold of the way told last (from 0), as a number. STATE (there is none such).");
        CreaseFlat x = withStrip(1, 1, 1, 1);
        x.strip(2);
        for (int i : FAR) {
            due.is("none was told, " + i, x.step(i), STATE);
        }
        x.simple(0);
        due.is("the first", x.step(0), 8);
        due.is("the last", x.step(1), 4);
        for (int i : new int[] {MIN, -1, 2, 8, MAX}) {
            due.is("there is none such, " + i, x.step(i), STATE);
        }
        x.mark(0, 1, MOUNTAIN);
        x.fold(0, 9);
        due.is("told still", x.step(0), 8);
        x.simple(1);
        due.is("a shorter one", x.step(0), 4);
        due.is("has no second fold", x.step(1), STATE);
    }

    private static void promise23() {
        due.says("23: how many creases are folded by it; 0 if it cannot be done (a strip has no rows)");
        CreaseFlat x = withStrip(1, 1, 1, 1);
        due.is("a strip has no rows", x.fold(0, 6), 0);
        due.is("a strip has no rows, under", x.fold(0, 7), 0);
        due.is("no crease at 0", x.fold(0, 0), 0);
        due.is("no crease at 4", x.fold(0, 16), 0);
        due.is("nothing has been folded", x.flatten(0), 0);
        due.is("one", x.fold(0, 8), 1);
        due.is("two at once", x.fold(0, 4), 2);
        due.is("none is left", x.fold(0, 4), 0);
        due.is("a row of squares has no rows to fold", withMap(1, 4).fold(0, 6), 0);
        due.is("a column of squares has no columns to fold", withMap(4, 1).fold(0, 4), 0);
        CreaseFlat m = withMap(4, 2);
        due.is("rows at 2", m.fold(0, 10), 2);
        due.is("two lines of two creases", m.fold(0, 6), 4);
        due.is("columns", m.fold(0, 5), 4);
        due.is("all", m.flatten(0), 10);
        due.says("23: UNKNOWN, STATE (a corner).");
        m.corner(4);
        for (int step : FAR) {
            due.is("a corner, " + step, m.fold(1, step), STATE);
            due.is("no paper, " + step, m.fold(2, step), UNKNOWN);
        }
    }

    private static void promise24() {
        due.says("24: A paper lies flat again: how many creases were folded.");
        CreaseFlat x = withStrip(1, 1, 1);
        due.is("none", x.flatten(0), 0);
        x.fold(0, 4);
        due.is("one", x.flatten(0), 1);
        due.is("none again", x.flatten(0), 0);
        due.is("flat", x.lies(0, 2, 0), 2);
        x.fold(0, 4);
        x.fold(0, 0);
        due.is("all", x.flatten(0), 2);
        due.is("one face", withStrip(1).flatten(0), 0);
        CreaseFlat m = withMap(3, 3);
        m.map(3, 3);
        for (int step : new int[] {4, 0, 6, 2}) {
            m.fold(0, step);
        }
        m.fold(1, 4);
        due.is("all twelve", m.flatten(0), 12);
        due.is("another paper lies as it lay", m.flatten(1), 3);
        due.says("24: UNKNOWN, STATE (a corner).");
        m.corner(2);
        due.is("a corner", m.flatten(2), STATE);
        due.is("no paper", m.flatten(3), UNKNOWN);
    }

    private static void promise25() {
        due.says("25: what = 0 where it begins (of a map: where its column begins), 1 whether it goes upwards (1, 0; a map's column likewise), 2 whether its front is up (1, 0), 3 of a map where its row begins (0 of a strip)");
        CreaseFlat x = withStrip(1, 5, 2);
        x.map(2, 2);
        x.corner(3);
        x.fold(0, 4);
        int[] due25 = {-4, 0, 0, 0};
        for (int what = 0; what < 4; what++) {
            due.is("the last face, " + what, x.lies(0, 2, what), due25[what]);
        }
        x.fold(1, 6);
        int[][] squares = {{0, 1, 1, 0}, {1, 1, 1, 0}, {0, 1, 0, 1}, {1, 1, 0, 1}};
        for (int f = 0; f < 4; f++) {
            for (int what = 0; what < 4; what++) {
                due.is("square " + f + ", " + what, x.lies(1, f, what), squares[f][what]);
            }
        }
        due.says("25: UNKNOWN, OUTSIDE, STATE (a corner).");
        due.is("one too small", x.lies(0, 0, -1), OUTSIDE);
        due.is("one too great", x.lies(0, 0, 4), OUTSIDE);
        due.is("no face 3", x.lies(0, 3, 0), UNKNOWN);
        due.is("no face -1", x.lies(0, -1, 0), UNKNOWN);
        due.is("no face 4 of a map", x.lies(1, 4, 0), UNKNOWN);
        due.is("a corner", x.lies(2, 2, 3), STATE);
        due.is("a corner, one too great", x.lies(2, 2, 4), OUTSIDE);
        due.is("a corner, no face 3", x.lies(2, 3, 4), UNKNOWN);
        due.is("no paper", x.lies(3, 0, 0), UNKNOWN);
    }

    public static void main(String[] args) {
        promise1();
        promise2();
        promise3();
        promise4();
        promise5();
        promise6();
        promise7();
        promise8();
        promise9();
        promise10();
        promise11();
        promise12();
        promise13();
        promise14Row();
        promise14Answers();
        promise15();
        promise16();
        promise17();
        promise18();
        promise19();
        promise19All();
        promise20();
        promise21();
        promise22();
        promise23();
        promise24();
        promise25();
        due.end();
    }
}
