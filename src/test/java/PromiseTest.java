/** Each promise of the document: ordinary inputs, the edges that it names, and wrong inputs. */
public final class PromiseTest extends Sheets {
    private static final Due due = new Due("PromiseTest");

    /** All calls that take a paper, of one that is not there. */
    private static void unknownPaper(CreaseFlat x, int paper, String name) {
        due.is(name + " length", x.length(paper, 0, 1), UNKNOWN);
        due.is(name + " mark", x.mark(paper, 0, 1), UNKNOWN);
        due.is(name + " about", x.about(paper, 0), UNKNOWN);
        due.is(name + " crease", x.crease(paper, 0, 0), UNKNOWN);
        due.is(name + " judge", x.judge(paper), UNKNOWN);
        due.is(name + " orders", x.orders(paper), UNKNOWN);
        due.is(name + " order", x.order(paper, 0), UNKNOWN);
        due.is(name + " check", x.check(paper, 0), UNKNOWN);
        due.is(name + " forced", x.forced(paper, 0), UNKNOWN);
        due.is(name + " above", x.above(paper, 0, 0), UNKNOWN);
        due.is(name + " foldings", x.foldings(paper), UNKNOWN);
        due.is(name + " clash", x.clash(paper), UNKNOWN);
        due.is(name + " simple", x.simple(paper), UNKNOWN);
        due.is(name + " fold", x.fold(paper, 4), UNKNOWN);
        due.is(name + " flatten", x.flatten(paper), UNKNOWN);
        due.is(name + " lies", x.lies(paper, 0, 0), UNKNOWN);
        due.is(name + " alike, one", x.alike(paper, 0), UNKNOWN);
        due.is(name + " alike, other", x.alike(0, paper), UNKNOWN);
        // UNKNOWN comes ahead of OUTSIDE.
        due.is(name + " length outside", x.length(paper, 0, 0), UNKNOWN);
        due.is(name + " mark outside", x.mark(paper, 0, 3), UNKNOWN);
        due.is(name + " about outside", x.about(paper, 6), UNKNOWN);
        due.is(name + " crease outside", x.crease(paper, 0, 4), UNKNOWN);
        due.is(name + " order outside", x.order(paper, -1), UNKNOWN);
        due.is(name + " check outside", x.check(paper, -1), UNKNOWN);
        due.is(name + " lies outside", x.lies(paper, 0, 4), UNKNOWN);
    }

    private static void promise1NewObject() {
        CreaseFlat x = new CreaseFlat();
        unknownPaper(x, 0, "1: no paper 0");
        due.is("1: layer", x.layer(0), STATE);
        due.is("1: turned", x.turned(0), STATE);
        due.is("1: inClash", x.inClash(0), NONE);
        due.is("1: step", x.step(0), STATE);
        x.strip(3);
        x.judge(0);
        x.simple(0);
        CreaseFlat y = new CreaseFlat();
        unknownPaper(y, 0, "1: nothing is shared");
        due.is("1: layer of another", y.layer(0), STATE);
        due.is("1: step of another", y.step(0), STATE);
        for (int paper : new int[] {-1, 1, 29, 30, MIN, MAX}) {
            unknownPaper(x, paper, "1: no paper " + paper);
        }
    }

    private static void promise2Strip() {
        CreaseFlat x = new CreaseFlat();
        for (int faces : new int[] {0, -1, 10, MIN, MAX}) {
            due.is("2: strip " + faces, x.strip(faces), OUTSIDE);
        }
        due.is("2: least", x.strip(1), 0);
        due.is("2: most", x.strip(9), 1);
        due.is("2: refused", x.strip(10), OUTSIDE);
        for (int n = 2; n < 30; n++) {
            due.is("2: strip " + n, x.strip(3), n);
        }
        due.is("2: room", x.strip(3), ROOM);
        due.is("2: outside ahead of room", x.strip(10), OUTSIDE);
        due.is("2: faces of the first", x.about(0, 1), 1);
        due.is("2: faces of the last", x.about(29, 1), 3);
        unknownPaper(x, 30, "2: no paper 30");
    }

    private static void promise3Corner() {
        CreaseFlat x = new CreaseFlat();
        for (int faces : new int[] {1, 0, -2, 10, MIN, MAX}) {
            due.is("3: corner " + faces, x.corner(faces), OUTSIDE);
        }
        due.is("3: least", x.corner(2), 0);
        due.is("3: most", x.corner(9), 1);
        for (int n = 2; n < 30; n++) {
            due.is("3: corner " + n, x.corner(4), n);
        }
        due.is("3: room", x.corner(4), ROOM);
        due.is("3: outside ahead of room", x.corner(1), OUTSIDE);
    }

    private static void promise4Map() {
        CreaseFlat x = new CreaseFlat();
        int[][] wrong = {{0, 3}, {3, 0}, {-1, -1}, {-3, -3}, {2, 5}, {5, 2}, {1, 10}, {10, 1}, {4, 3},
            {65536, 65536}, {MIN, MIN}, {MAX, MAX}, {1, MAX}, {MIN, 1}, {3, 1431655766}};
        for (int[] size : wrong) {
            due.is("4: map " + size[0] + " " + size[1], x.map(size[0], size[1]), OUTSIDE);
        }
        int[][] right = {{1, 1}, {1, 9}, {9, 1}, {3, 3}, {2, 4}, {4, 2}};
        for (int n = 0; n < right.length; n++) {
            due.is("4: map", x.map(right[n][0], right[n][1]), n);
            due.is("4: squares", x.about(n, 1), right[n][0] * right[n][1]);
        }
        for (int n = right.length; n < 30; n++) {
            due.is("4: map " + n, x.map(2, 2), n);
        }
        due.is("4: room", x.map(2, 2), ROOM);
        due.is("4: outside ahead of room", x.map(2, 5), OUTSIDE);
    }

    private static void promise5Length() {
        CreaseFlat x = withStrip(1, 1, 1);
        x.corner(4);
        x.map(2, 2);
        due.is("5: at first 1", x.length(0, 2, 1000), 1);
        due.is("5: what it had", x.length(0, 2, 7), 1000);
        due.is("5: of a corner", x.length(1, 3, 5), 1);
        due.is("5: of a corner, again", x.length(1, 3, 1), 5);
        for (int face : new int[] {-1, 3, 9, MIN, MAX}) {
            due.is("5: face " + face, x.length(0, face, 1), UNKNOWN);
            due.is("5: face " + face + " outside", x.length(0, face, 0), UNKNOWN);
        }
        for (int v : new int[] {0, -1, 1001, MIN, MAX}) {
            due.is("5: length " + v, x.length(0, 2, v), OUTSIDE);
            due.is("5: length on a map " + v, x.length(2, 0, v), OUTSIDE);
        }
        due.is("5: a map", x.length(2, 3, 1), STATE);
        due.is("5: a map has no face 4", x.length(2, 4, 1), UNKNOWN);
        due.is("5: refused changes nothing", x.length(0, 2, 7), 7);
    }

    private static void promise6Mark() {
        CreaseFlat x = withStrip(1, 1, 1);
        x.corner(4);
        x.map(2, 2);
        due.is("6: at first 0", x.mark(0, 1, 2), 0);
        due.is("6: what it had", x.mark(0, 1, 1), 2);
        due.is("6: again", x.mark(0, 1, 0), 1);
        due.is("6: and any", x.mark(0, 1, 1), 0);
        due.is("6: a corner has one crease more", x.mark(1, 3, 1), 0);
        due.is("6: of a map", x.mark(2, 3, 2), 0);
        for (int m : new int[] {-1, 3, MIN, MAX}) {
            due.is("6: mark " + m, x.mark(0, 1, m), OUTSIDE);
        }
        for (int c : new int[] {-1, 2, 12, MIN, MAX}) {
            due.is("6: crease " + c, x.mark(0, c, 1), UNKNOWN);
            due.is("6: crease " + c + " outside", x.mark(0, c, 3), UNKNOWN);
        }
        due.is("6: no crease 4", x.mark(2, 4, 1), UNKNOWN);
        due.is("6: refused changes nothing", x.crease(0, 1, 2), 1);
        x.strip(1);
        due.is("6: one face has no crease", x.mark(3, 0, 1), UNKNOWN);
    }

    private static void promise7About() {
        CreaseFlat x = withStrip(5, 2, 4);
        x.corner(5);
        lengths(x, 1, 10, 20, 30, 40, 50);
        x.map(2, 3);
        marks(x, 2, 1, 1, 2, 0, 1, 2, 0);
        int[][] due7 = {{0, 3, 2, 0, 0, 0}, {1, 5, 5, 0, 0, 30}, {2, 6, 7, 3, 2, 0}};
        for (int paper = 0; paper < 3; paper++) {
            for (int what = 0; what < 6; what++) {
                due.is("7: about " + paper + " " + what, x.about(paper, what), due7[paper][what]);
            }
            for (int what : new int[] {-1, 6, MIN, MAX}) {
                due.is("7: about " + paper + " " + what, x.about(paper, what), OUTSIDE);
            }
        }
        x.length(1, 3, 141);
        due.is("7: less than nothing", x.about(1, 5), 90 - 161);
        x.map(3, 3);
        due.is("7: creases of 3 by 3", x.about(3, 2), 12);
        x.map(1, 1);
        due.is("7: creases of 1 by 1", x.about(4, 2), 0);
    }

    private static void creases(CreaseFlat x, int paper, int[][] want) {
        due.is("8: creases", x.about(paper, 2), want.length);
        for (int c = 0; c < want.length; c++) {
            due.is("8: first of " + c, x.crease(paper, c, 0), want[c][0]);
            due.is("8: second of " + c, x.crease(paper, c, 1), want[c][1]);
            due.is("8: place of " + c, x.crease(paper, c, 3), want[c][2]);
        }
    }

    private static void promise8Crease() {
        CreaseFlat x = withStrip(3, 1, 2, 9);
        creases(x, 0, new int[][] {{0, 1, 3}, {1, 2, 2}, {2, 3, 4}});
        x.corner(4);
        lengths(x, 1, 3, 1, 2, 9);
        creases(x, 1, new int[][] {{0, 1, 3}, {1, 2, 2}, {2, 3, 4}, {3, 0, -5}});
        x.map(2, 3);
        creases(x, 2, new int[][] {{0, 1, 0}, {1, 2, 1}, {3, 4, 0}, {4, 5, 1}, {0, 3, 2}, {1, 4, 2}, {2, 5, 2}});
        x.map(3, 1);
        creases(x, 3, new int[][] {{0, 1, 2}, {1, 2, 3}});
        x.corner(2);
        creases(x, 4, new int[][] {{0, 1, 1}, {1, 0, 0}});
        x.mark(0, 1, 2);
        due.is("8: mark", x.crease(0, 1, 2), 2);
        due.is("8: no mark", x.crease(0, 0, 2), 0);
        // The place is that of all folded, however the paper lies.
        x.fold(0, 12);
        due.is("8: place of a paper that is folded", x.crease(0, 1, 3), 2);
        for (int what : new int[] {-1, 4, MIN, MAX}) {
            due.is("8: what " + what, x.crease(0, 0, what), OUTSIDE);
        }
        for (int c : new int[] {-1, 3, 12, MIN, MAX}) {
            due.is("8: crease " + c, x.crease(0, c, 0), UNKNOWN);
            due.is("8: crease " + c + " outside", x.crease(0, c, 4), UNKNOWN);
        }
    }

    private static void promise9Judge() {
        CreaseFlat x = withStrip(1, 1, 1);
        x.corner(3);
        due.is("9: an odd corner", x.judge(1), 0);
        due.is("9: nothing is told", x.layer(0), STATE);
        x.mark(0, 0, 1);
        due.is("9: marked", x.judge(0), 1);
        // Face 1 must lie below face 0: of 1 0 2, 1 2 0, 2 1 0 the first one is the least.
        due.is("9: lowest", x.layer(0), 1);
        due.is("9: next", x.layer(1), 0);
        due.is("9: topmost", x.layer(2), 2);
        due.is("9: no order", x.judge(1), 0);
        due.is("9: what was told stays", x.layer(0), 1);
        due.is("9: refused", x.judge(2), UNKNOWN);
        due.is("9: what was told stays", x.layer(0), 1);
        x.mark(0, 0, 2);
        due.is("9: told until the next judge", x.layer(0), 1);
        due.is("9: judge again", x.judge(0), 1);
        due.is("9: told anew", x.layer(0), 0);
        x.map(2, 2);
        marks(x, 2, 2, 2, 2, 2);
        due.is("9: marks clash", x.judge(2), 0);
    }

    private static void promise10Layer() {
        CreaseFlat x = withStrip(3, 1, 3);
        due.is("10: none was told", x.layer(0), STATE);
        x.mark(0, 0, 1);
        x.judge(0);
        for (int h = 0; h < 3; h++) {
            due.is("10: layer " + h, x.layer(h), 2 - h);
        }
        for (int h : new int[] {-1, 3, 9, MIN, MAX}) {
            due.is("10: layer " + h, x.layer(h), OUTSIDE);
        }
        x.strip(1);
        x.judge(1);
        due.is("10: one face", x.layer(0), 0);
        due.is("10: no more", x.layer(1), OUTSIDE);
    }

    private static void promise11Turned() {
        CreaseFlat x = withStrip(1, 1, 1);
        due.is("11: none was told", x.turned(0), STATE);
        x.judge(0);
        due.is("11: front up, above", x.turned(0), 2);
        due.is("11: front down, above", x.turned(1), 1);
        x.mark(0, 0, 1);
        due.is("11: marks told later are not asked", x.turned(0), 2);
        x.judge(0);
        due.is("11: front up, below", x.turned(0), 1);
        x.map(2, 2);
        marks(x, 1, 2, 2, 2, 1);
        x.judge(1);
        for (int c = 0; c < 4; c++) {
            due.is("11: of a map " + c, x.turned(c), x.crease(1, c, 2));
        }
        for (int c : new int[] {-1, 4, 12, MIN, MAX}) {
            due.is("11: crease " + c, x.turned(c), UNKNOWN);
        }
        x.strip(1);
        x.judge(2);
        due.is("11: no crease", x.turned(0), UNKNOWN);
        x.corner(2);
        x.judge(3);
        due.is("11: of two faces both creases are valleys", x.turned(0) + 10 * x.turned(1), 22);
    }

    /** The numbers of orders of strips and maps of stamps are known since long. */
    private static void promise12Orders() {
        int[] strips = {1, 2, 6, 16, 50, 144, 462, 1392, 4536};
        CreaseFlat x = new CreaseFlat();
        for (int n = 0; n < 9; n++) {
            x.strip(n + 1);
            due.is("12: strip " + (n + 1), x.orders(n), strips[n]);
        }
        int[][] maps = {{1, 9, 4536}, {9, 1, 4536}, {2, 2, 8}, {2, 3, 60}, {3, 2, 60}, {2, 4, 320}, {4, 2, 320}, {3, 3, 1368}};
        for (int i = 0; i < maps.length; i++) {
            x.map(maps[i][0], maps[i][1]);
            due.is("12: map " + maps[i][0] + " " + maps[i][1], x.orders(9 + i), maps[i][2]);
        }
        due.is("12: corner, equal", withCorner(1, 1, 1, 1).orders(0), 8);
        due.is("12: corner of two", withCorner(7, 7).orders(0), 2);
        due.is("12: corner of two, not even", withCorner(7, 8).orders(0), 0);
        due.is("12: corner of three", withCorner(1, 2, 1).orders(0), 0);
        due.is("12: corner of nine", withCorner(1, 1, 1, 1, 1, 1, 1, 2, 1).orders(0), 0);
        due.is("12: short between long", withStrip(3, 1, 3).orders(0), 2);
        due.is("12: long between short", withStrip(1, 3, 1).orders(0), 6);
        CreaseFlat y = withStrip(1, 1, 1);
        y.mark(0, 0, 2);
        due.is("12: with a mark", y.orders(0), 3);
    }

    private static void promise13Order() {
        CreaseFlat x = withStrip(1, 1, 1);
        long[] all = {210, 120, 201, 21, 102, 12};
        for (int k = 0; k < 6; k++) {
            due.is("13: order " + k, x.order(0, k), all[k]);
        }
        for (int k : new int[] {-1, 6, 7, 362879, 362880, MIN, MAX}) {
            due.is("13: order " + k, x.order(0, k), OUTSIDE);
        }
        x.corner(3);
        due.is("13: none", x.order(1, 0), OUTSIDE);
        x.strip(9);
        due.is("13: nine faces, least", x.order(2, 0), 876543210L);
        due.is("13: nine faces, last", x.order(2, 4535), 12345678L);
        due.is("13: nine faces, no more", x.order(2, 4536), OUTSIDE);
        x.strip(1);
        due.is("13: one face", x.order(3, 0), 0);
        due.is("13: nothing is told by it", x.layer(0), STATE);
    }

    private static void promise14Check() {
        CreaseFlat x = withStrip(1, 1, 1, 1);
        due.is("14: allowed", x.check(0, 3210), 0);
        due.is("14: across", x.check(0, 3120), 30002);
        due.is("14: one within the other", x.check(0, 1320), 0);
        x.mark(0, 2, 2);
        due.is("14: marks ahead of across", x.check(0, 1230), 10200);
        x.mark(0, 0, 1);
        due.is("14: the least crease", x.check(0, 1230), 10000);
        for (long order : new long[] {-1, -3210, 210, 3211, 4210, 43210, 13210, 33210, 10003210, 0, Long.MIN_VALUE, Long.MAX_VALUE, 4294970506L}) {
            due.is("14: check " + order, x.check(0, order), OUTSIDE);
        }
        CreaseFlat y = withStrip(1, 1, 2);
        due.is("14: through", y.check(0, 120), 20002);
        y.mark(0, 1, 1);
        due.is("14: marks ahead of through", y.check(0, 120), 10100);
        // Crease 0 has its place within face 2; its end is no more than at the place.
        due.is("14: at its end", withStrip(1, 1, 1).check(0, 120), 0);
        due.is("14: through by face 0", withStrip(3, 1, 3).check(0, 201), 20100);
        // Faces 2 and 3 lie over crease 0, and both lie within it: the lesser face is told.
        CreaseFlat z = withStrip(5, 5, 9, 9);
        due.is("14: the least face", z.check(0, 1230), 20002);
        due.is("14: the next face", z.check(0, 2130), 20003);
        // Creases 0 and 2 cross; THROUGH is told ahead of that, though of a greater crease.
        CreaseFlat w = withStrip(1, 1, 1, 1, 1, 3, 5);
        due.is("14: across alone", w.check(0, 6543120L), 30002);
        due.is("14: across, and through crease 4", w.check(0, 5643120L), 20406);
        CreaseFlat c = withCorner(2, 1, 1, 1);
        due.is("14: not even", c.check(0, 3210), 40000);
        due.is("14: not even, but no row", c.check(0, 3211), OUTSIDE);
        c.mark(0, 0, 1);
        due.is("14: not even ahead of marks", c.check(0, 3210), 40000);
        due.is("14: odd", withCorner(1, 2, 1).check(0, 210), 40000);
        due.is("14: one face", withStrip(1).check(0, 0), 0);
        due.is("14: one face, two digits", withStrip(1).check(0, 10), OUTSIDE);
        promise14MapsAndCorners();
    }

    private static void promise14MapsAndCorners() {
        CreaseFlat m = withMap(2, 2);
        // Creases 0 (faces 0, 1) and 1 (faces 2, 3) are of one place, 2 (0, 2) and 3 (1, 3) of another.
        due.is("14: map across columns", m.check(0, 3120), 30001);
        due.is("14: map across rows", m.check(0, 3210), 30203);
        due.is("14: map allowed", m.check(0, 2310), 0);
        // On a map no face has a place within it.
        due.is("14: map 1 by 3", withMap(1, 3).check(0, 120), 0);
        CreaseFlat c = withCorner(1, 1, 1, 1);
        due.is("14: corner, the one within the other", c.check(0, 3210), 0);
        due.is("14: corner across its last crease", c.check(0, 3201), 30103);
        due.is("14: corner allowed", c.check(0, 1230), 0);
        // Creases 0 and 3 are of place 1, but come to it from other sides: they may cross.
        CreaseFlat s = withStrip(1, 1, 2, 1, 1);
        due.is("14: one place", s.crease(0, 0, 3) - s.crease(0, 3, 3), 0);
        due.is("14: other sides", s.check(0, 41302), 0);
        // Creases 1 and 3 come to place 0 from above: they may not.
        CreaseFlat t = withStrip(1, 1, 1, 1, 1);
        due.is("14: from above", t.check(0, 42310), 30103);
    }

    private static void promise15Forced() {
        CreaseFlat x = withStrip(3, 1, 3);
        due.is("15: both", x.forced(0, 0), 3);
        x.mark(0, 1, 1);
        due.is("15: forced to be a valley", x.forced(0, 0), 2);
        due.is("15: the mark itself", x.forced(0, 1), 1);
        x.mark(0, 1, 2);
        due.is("15: forced to be a mountain", x.forced(0, 0), 1);
        x.mark(0, 0, 2);
        due.is("15: none", x.forced(0, 0), 0);
        due.is("15: none", x.forced(0, 1), 0);
        x.corner(3);
        due.is("15: not even", x.forced(1, 2), 0);
        for (int c : new int[] {-1, 2, 12, MIN, MAX}) {
            due.is("15: crease " + c, x.forced(0, c), UNKNOWN);
        }
    }

    private static void promise16Above() {
        CreaseFlat x = withStrip(3, 1, 3);
        due.is("16: both", x.above(0, 0, 2), 0);
        x.mark(0, 0, 2);
        due.is("16: above", x.above(0, 2, 0), 1);
        due.is("16: below", x.above(0, 0, 2), -1);
        due.is("16: one face", x.above(0, 1, 1), 2);
        x.mark(0, 1, 2);
        due.is("16: none", x.above(0, 0, 2), 2);
        x.corner(3);
        due.is("16: not even", x.above(1, 0, 1), 2);
        for (int f : new int[] {-1, 3, 9, MIN, MAX}) {
            due.is("16: one " + f, x.above(0, f, 0), UNKNOWN);
            due.is("16: other " + f, x.above(0, 0, f), UNKNOWN);
            due.is("16: both " + f, x.above(0, f, f), UNKNOWN);
        }
    }

    private static void promise17Alike() {
        CreaseFlat x = withStrip(1, 1, 1, 1);
        x.map(1, 4);
        x.map(4, 1);
        x.strip(3);
        x.corner(4);
        due.is("17: strip and map", x.alike(0, 1), 1);
        due.is("17: row and column", x.alike(1, 2), 1);
        due.is("17: itself", x.alike(0, 0), 1);
        due.is("17: not as many faces", x.alike(0, 3), 0);
        due.is("17: not the same orders", x.alike(0, 4), 0);
        x.length(4, 0, 2);
        x.corner(4);
        x.length(5, 1, 2);
        due.is("17: both allow none", x.alike(4, 5), 1);
        x.corner(3);
        due.is("17: both allow none, of other numbers of faces", x.alike(4, 6), 0);
        due.is("17: one allows none", x.alike(0, 4), 0);
        due.is("17: the other allows none", x.alike(4, 0), 0);
        // As many orders, yet not the same ones.
        x.mark(0, 0, 1);
        x.mark(1, 0, 2);
        due.is("17: as many", x.orders(0) - x.orders(1), 0);
        due.is("17: other ones", x.alike(0, 1), 0);
        x.mark(0, 0, 2);
        due.is("17: the same ones", x.alike(0, 1), 1);
        x.mark(1, 1, 2);
        due.is("17: fewer", x.alike(0, 1), 0);
        due.is("17: more", x.alike(1, 0), 0);
    }

    private static void promise18Foldings() {
        CreaseFlat x = new CreaseFlat();
        for (int n = 1; n <= 9; n++) {
            x.strip(n);
            // A strip of equal lengths can be folded with whatever marks.
            due.is("18: strip " + n, x.foldings(n - 1), 1 << (n - 1));
        }
        x.mark(8, 3, 1);
        x.mark(8, 7, 2);
        due.is("18: two marks less", x.foldings(8), 64);
        due.is("18: corner, equal", withCorner(1, 1, 1, 1).foldings(0), 8);
        due.is("18: corner, one least", withCorner(3, 1, 3, 5).foldings(0), 4);
        due.is("18: corner, not even", withCorner(1, 2, 1, 1).foldings(0), 0);
        due.is("18: short between long", withStrip(3, 1, 3).foldings(0), 2);
        CreaseFlat m = withMap(2, 2);
        due.is("18: map", m.foldings(0), 8);
        marks(m, 0, 2, 2, 2, 2);
        due.is("18: marks that clash", m.foldings(0), 0);
        m.mark(0, 3, 1);
        due.is("18: all marked", m.foldings(0), 1);
        due.is("18: asked twice", m.foldings(0), 1);
    }

    private static void promise19Clash() {
        CreaseFlat x = withStrip(3, 1, 3, 1, 3);
        marks(x, 0, 2, 2, 2, 2);
        // 2 and 3 clash too, but are left out first, and 0 and 1 still clash.
        due.is("19: two of four", x.clash(0), 2);
        due.is("19: first", x.inClash(0), 0);
        due.is("19: second", x.inClash(1), 1);
        due.is("19: marks stay", x.crease(0, 3, 2), 2);
        x.mark(0, 0, 0);
        due.is("19: the others", x.clash(0), 2);
        due.is("19: first", x.inClash(0), 2);
        due.is("19: second", x.inClash(1), 3);
        due.is("19: refused", x.clash(1), UNKNOWN);
        due.is("19: refused, told stays", x.inClash(0), 2);
        x.mark(0, 3, 1);
        due.is("19: some order is allowed", x.clash(0), 0);
        due.is("19: none is told then", x.inClash(0), NONE);
        CreaseFlat c = withCorner(1, 1, 1, 1);
        marks(c, 0, 1, 1, 1, 1);
        due.is("19: all of a corner", c.clash(0), 4);
        due.is("19: last", c.inClash(3), 3);
        c.length(0, 0, 2);
        due.is("19: the marks are not to blame", c.clash(0), 0);
        due.is("19: none is told then", c.inClash(0), NONE);
    }

    private static void promise20InClash() {
        CreaseFlat x = withStrip(1, 3, 1, 3);
        due.is("20: none told", x.inClash(0), NONE);
        marks(x, 0, 1, 2, 2);
        due.is("20: two", x.clash(0), 2);
        due.is("20: least first", x.inClash(0), 1);
        due.is("20: then", x.inClash(1), 2);
        for (int k : new int[] {-1, 2, 12, MIN, MAX}) {
            due.is("20: inClash " + k, x.inClash(k), NONE);
        }
        x.mark(0, 1, 0);
        x.judge(0);
        due.is("20: told until the next clash", x.inClash(0), 1);
    }

    private static void steps(CreaseFlat x, int paper, int... want) {
        due.is("21: simple", x.simple(paper), want.length);
        for (int i = 0; i < want.length; i++) {
            due.is("21: step " + i, x.step(i), want[i]);
        }
        due.is("21: no more", x.step(want.length), STATE);
    }

    private static void promise21Simple() {
        steps(withStrip(1, 1, 1, 1), 0, 8, 4);
        steps(withStrip(1, 2, 1), 0, 4, -4);
        CreaseFlat x = withStrip(1, 1, 1);
        // Crease 0 at 1, then crease 1 at 0: 0 is the least number, yet its turn comes second.
        steps(x, 0, 4, 0);
        marks(x, 0, 1, 1);
        steps(x, 0, 5, 0);
        x.mark(0, 1, 2);
        steps(x, 0, 5, 1);
        // However it lies now.
        x.fold(0, 5);
        steps(x, 0, 5, 1);
        due.is("21: it still lies so", x.lies(0, 1, 1), 0);
        x.strip(3);
        lengths(x, 1, 3, 1, 3);
        due.is("21: no way", x.simple(1), NONE);
        due.is("21: told stays", x.step(0), 5);
        x.corner(4);
        due.is("21: a corner", x.simple(2), STATE);
        due.is("21: refused", x.simple(3), UNKNOWN);
        due.is("21: told stays", x.step(1), 1);
        x.strip(1);
        due.is("21: nothing to fold", x.simple(3), 0);
        due.is("21: that is told", x.step(0), STATE);
        x.strip(9);
        due.is("21: nine faces", x.simple(4), 4);
        x.map(3, 3);
        steps(x, 5, 4, 0, 6, 2);
        x.map(4, 2);
        steps(x, 6, 4, 10, 6);
        marks(x, 6, 2, 1, 2, 1);
        // All rows must be folded first, so that the fronts of column 0 lie up and down by turns.
        steps(x, 6, 10, 6, 4);
    }

    /** No two creases of such lengths can ever lie at one place. */
    private static void promise21MostFolds() {
        CreaseFlat x = withStrip(256, 128, 64, 32, 16, 8, 4, 2, 1);
        due.is("21: the most folds", x.simple(0), 8);
        for (int i = 0; i < 8; i++) {
            due.is("21: step " + i + " can be done", x.fold(0, x.step(i)), 1);
        }
        due.is("21: all is folded", x.flatten(0), 8);
        due.is("21: no ninth step", x.step(8), STATE);
    }

    private static void promise22Step() {
        CreaseFlat x = withStrip(1, 1, 1, 1);
        due.is("22: none was told", x.step(0), STATE);
        x.simple(0);
        due.is("22: first", x.step(0), 8);
        due.is("22: second", x.step(1), 4);
        for (int i : new int[] {-1, 2, 8, MIN, MAX}) {
            due.is("22: step " + i, x.step(i), STATE);
        }
        x.mark(0, 1, 1);
        due.is("22: told until the next way", x.step(0), 8);
    }

    private static void promise23Fold() {
        CreaseFlat x = withStrip(1, 1, 1, 1);
        for (int step : new int[] {0, 16, -4, 20, 6, 7, 10, MIN, MAX}) {
            due.is("23: cannot be done " + step, x.fold(0, step), 0);
        }
        due.is("23: nothing was done", x.flatten(0), 0);
        due.is("23: one crease", x.fold(0, 8), 1);
        due.is("23: it is folded already", x.fold(0, 8), 0);
        x.mark(0, 0, 2);
        x.mark(0, 2, 2);
        // Face 2 lies with its front down.
        due.is("23: marks are not alike as they lie", x.fold(0, 4), 0);
        due.is("23: nor under", x.fold(0, 5), 0);
        x.mark(0, 2, 1);
        due.is("23: not under", x.fold(0, 5), 0);
        due.is("23: over", x.fold(0, 4), 2);
        CreaseFlat y = withStrip(3, 1, 3);
        due.is("23: first", y.fold(0, 12), 1);
        due.is("23: a face has the place within it", y.fold(0, 8), 0);
        CreaseFlat z = withStrip(1, 3, 1);
        z.mark(0, 1, 2);
        due.is("23: first", z.fold(0, 5), 1);
        due.is("23: below 0, over a face that is turned", z.fold(0, -8), 0);
        due.is("23: below 0, under", z.fold(0, -7), 1);
        promise23Maps();
    }

    private static void promise23Maps() {
        CreaseFlat x = withMap(3, 3);
        due.is("23: a column's creases", x.fold(0, 8), 3);
        due.is("23: rows and columns are not one", x.fold(0, 10), 3);
        due.is("23: rows", x.fold(0, 6), 3);
        due.is("23: rows again", x.fold(0, 6), 0);
        due.is("23: column at 1", x.fold(0, 5), 3);
        due.is("23: all", x.flatten(0), 12);
        x.mark(0, 2, 1);
        due.is("23: one mark keeps the line", x.fold(0, 4), 0);
        due.is("23: the other way", x.fold(0, 5), 3);
        x.corner(4);
        due.is("23: a corner", x.fold(1, 4), STATE);
        due.is("23: a row of squares has no rows to fold", withMap(1, 3).fold(0, 6), 0);
        due.is("23: a column of squares", withMap(3, 1).fold(0, 4), 0);
        due.is("23: a column of squares", withMap(3, 1).fold(0, 6), 1);
    }

    private static void promise24Flatten() {
        CreaseFlat x = withStrip(1, 1, 1, 1);
        due.is("24: flat", x.flatten(0), 0);
        x.fold(0, 8);
        x.fold(0, 4);
        due.is("24: three", x.flatten(0), 3);
        due.is("24: flat again", x.flatten(0), 0);
        due.is("24: as at first", x.lies(0, 3, 0), 3);
        x.map(2, 3);
        x.fold(1, 6);
        due.is("24: of a map", x.flatten(1), 3);
        x.corner(4);
        due.is("24: a corner", x.flatten(2), STATE);
        x.strip(1);
        due.is("24: one face", x.flatten(3), 0);
    }

    private static void lies(CreaseFlat x, int paper, int face, int... want) {
        for (int what = 0; what < 4; what++) {
            due.is("25: lies " + paper + " " + face + " " + what, x.lies(paper, face, what), want[what]);
        }
    }

    private static void promise25Lies() {
        CreaseFlat x = withStrip(2, 3, 4);
        lies(x, 0, 0, 0, 1, 1, 0);
        lies(x, 0, 2, 5, 1, 1, 0);
        x.fold(0, 8);
        lies(x, 0, 1, 2, 0, 0, 0);
        lies(x, 0, 2, -1, 0, 0, 0);
        x.length(0, 1, 7);
        lies(x, 0, 2, -5, 0, 0, 0);
        x.fold(0, -20);
        lies(x, 0, 2, -5, 1, 1, 0);
        x.map(3, 3);
        lies(x, 1, 8, 2, 1, 1, 2);
        x.fold(1, 4);
        lies(x, 1, 8, 0, 0, 0, 2);
        lies(x, 1, 6, 0, 1, 1, 2);
        x.fold(1, 10);
        lies(x, 1, 8, 0, 0, 1, 2);
        lies(x, 1, 6, 0, 1, 0, 2);
        lies(x, 1, 5, 0, 0, 0, 1);
        x.fold(1, 6);
        lies(x, 1, 8, 0, 0, 0, 0);
        for (int what : new int[] {-1, 4, MIN, MAX}) {
            due.is("25: what " + what, x.lies(0, 0, what), OUTSIDE);
        }
        for (int face : new int[] {-1, 3, 9, MIN, MAX}) {
            due.is("25: face " + face, x.lies(0, face, 0), UNKNOWN);
            due.is("25: face " + face + " outside", x.lies(0, face, 4), UNKNOWN);
        }
        x.corner(4);
        due.is("25: a corner", x.lies(2, 0, 0), STATE);
        due.is("25: a corner, outside", x.lies(2, 0, 4), OUTSIDE);
        due.is("25: a corner has no face 4", x.lies(2, 4, 0), UNKNOWN);
    }

    private static void constants() {
        due.is("NONE", CreaseFlat.NONE, NONE);
        due.is("UNKNOWN", CreaseFlat.UNKNOWN, UNKNOWN);
        due.is("OUTSIDE", CreaseFlat.OUTSIDE, OUTSIDE);
        due.is("STATE", CreaseFlat.STATE, STATE);
        due.is("ROOM", CreaseFlat.ROOM, ROOM);
    }

    public static void main(String[] args) {
        constants();
        promise1NewObject();
        promise2Strip();
        promise3Corner();
        promise4Map();
        promise5Length();
        promise6Mark();
        promise7About();
        promise8Crease();
        promise9Judge();
        promise10Layer();
        promise11Turned();
        promise12Orders();
        promise13Order();
        promise14Check();
        promise15Forced();
        promise16Above();
        promise17Alike();
        promise18Foldings();
        promise19Clash();
        promise20InClash();
        promise21Simple();
        promise21MostFolds();
        promise22Step();
        promise23Fold();
        promise24Flatten();
        promise25Lies();
        due.end();
    }
}
