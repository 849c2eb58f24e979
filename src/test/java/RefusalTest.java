import java.util.ArrayList;
import java.util.List;

/** Which refusal comes first, that what is refused changes nothing, and what a call leaves as it was. */
public final class RefusalTest extends Sheets {
    private static final Due due = new Due("RefusalTest");

    private interface Call {
        long on(CreaseFlat x);
    }

    /** A call with the answer that is due from an object made by makeObject(). */
    private record Asked(String name, long want, Call call) { }

    private static final List<Asked> refused = new ArrayList<>();
    private static final List<Asked> harmless = new ArrayList<>();

    private static void refuses(int want, String name, Call call) {
        refused.add(new Asked(name, want, call));
    }

    private static void answers(long want, String name, Call call) {
        harmless.add(new Asked(name, want, call));
    }

    /** Papers: 0 a strip, 1 a corner, 2 a map whose marks clash, 3 an odd corner, 4 a strip without simple folds. */
    private static CreaseFlat makeObject() {
        CreaseFlat x = withStrip(2, 1, 1, 2);
        x.corner(4);
        x.map(2, 2);
        x.corner(3);
        x.strip(3);
        lengths(x, 1, 1, 2, 2, 1);
        lengths(x, 4, 3, 1, 3);
        marks(x, 0, VALLEY, 0, MOUNTAIN);
        marks(x, 1, 0, MOUNTAIN);
        marks(x, 2, VALLEY, VALLEY, VALLEY, VALLEY);
        x.judge(0);
        x.clash(2);
        x.simple(0);
        x.fold(0, 12);
        x.fold(2, 4);
        return x;
    }

    private static String papers(CreaseFlat x) {
        StringBuilder text = new StringBuilder();
        for (int p = 0; p < 5; p++) {
            for (int what = 0; what < 6; what++) {
                text.append(x.about(p, what)).append(' ');
            }
            for (int c = 0; c < x.about(p, 2); c++) {
                text.append(x.crease(p, c, 0)).append(x.crease(p, c, 1)).append(x.crease(p, c, 2)).append(' ').append(x.crease(p, c, 3)).append(' ');
            }
            for (int f = 0; f < x.about(p, 1); f++) {
                int v = x.length(p, f, 1);
                text.append(v).append(' ').append(x.length(p, f, v)).append(x.lies(p, f, 0)).append(x.lies(p, f, 2)).append(x.lies(p, f, 3)).append(' ');
            }
            text.append('\n');
        }
        return text.append(x.about(5, 0)).append(x.about(29, 0)).append('\n').toString();
    }

    private static String orderTold(CreaseFlat x) {
        StringBuilder text = new StringBuilder("order");
        for (int i = 0; i < 6; i++) {
            text.append(' ').append(x.layer(i)).append(' ').append(x.turned(i));
        }
        return text.append('\n').toString();
    }

    private static String clashTold(CreaseFlat x) {
        StringBuilder text = new StringBuilder("clash");
        for (int i = 0; i < 6; i++) {
            text.append(' ').append(x.inClash(i));
        }
        return text.append('\n').toString();
    }

    private static String wayTold(CreaseFlat x) {
        StringBuilder text = new StringBuilder("way");
        for (int i = 0; i < 6; i++) {
            text.append(' ').append(x.step(i));
        }
        return text.append('\n').toString();
    }

    private static String state(CreaseFlat x) {
        return papers(x) + orderTold(x) + clashTold(x) + wayTold(x);
    }

    private static void refusalsOfPapers() {
        for (int faces : new int[] {0, -1, 10, MIN, MAX}) {
            refuses(OUTSIDE, "strip " + faces, x -> x.strip(faces));
            refuses(OUTSIDE, "corner " + faces, x -> x.corner(faces));
            refuses(OUTSIDE, "map rows " + faces, x -> x.map(faces, 1));
            refuses(OUTSIDE, "map columns " + faces, x -> x.map(1, faces));
            refuses(OUTSIDE, "map both " + faces, x -> x.map(faces, faces));
        }
        refuses(OUTSIDE, "corner 1", x -> x.corner(1));
        refuses(OUTSIDE, "map 2 5", x -> x.map(2, 5));
        refuses(OUTSIDE, "map 5 2", x -> x.map(5, 2));
        for (int v : new int[] {0, -1, 1001, MIN, MAX}) {
            refuses(OUTSIDE, "length " + v, x -> x.length(0, 0, v));
            refuses(OUTSIDE, "angle " + v, x -> x.length(1, 3, v));
            refuses(OUTSIDE, "length ahead of STATE " + v, x -> x.length(2, 0, v));
            refuses(UNKNOWN, "length, no face " + v, x -> x.length(0, 4, v));
            refuses(UNKNOWN, "length, no face on a map " + v, x -> x.length(2, 4, v));
            refuses(UNKNOWN, "length, no paper " + v, x -> x.length(5, 0, v));
        }
        refuses(STATE, "length of a map", x -> x.length(2, 0, 1));
        refuses(STATE, "length of a map, the most", x -> x.length(2, 3, 1000));
        refuses(UNKNOWN, "length of a map, no face", x -> x.length(2, 4, 7));
        refuses(UNKNOWN, "length, face below 0", x -> x.length(0, -1, 7));
        for (int m : new int[] {-1, 3, MIN, MAX}) {
            refuses(OUTSIDE, "mark " + m, x -> x.mark(0, 0, m));
            refuses(UNKNOWN, "mark, no crease " + m, x -> x.mark(0, 3, m));
            refuses(UNKNOWN, "mark, no paper " + m, x -> x.mark(5, 0, m));
        }
        refuses(UNKNOWN, "mark, no crease", x -> x.mark(0, 3, 1));
        refuses(UNKNOWN, "mark, crease below 0", x -> x.mark(0, -1, 1));
        for (int what : new int[] {-1, 6, MIN, MAX}) {
            refuses(OUTSIDE, "about " + what, x -> x.about(0, what));
            refuses(UNKNOWN, "about, no paper " + what, x -> x.about(5, what));
            refuses(OUTSIDE, "crease " + what, x -> x.crease(0, 0, what));
            refuses(UNKNOWN, "crease, no crease " + what, x -> x.crease(0, 3, what));
            refuses(UNKNOWN, "crease, no paper " + what, x -> x.crease(5, 0, what));
        }
        refuses(OUTSIDE, "crease 4", x -> x.crease(0, 0, 4));
    }

    private static void refusalsOfOrders() {
        for (int h : new int[] {-1, 4, MIN, MAX}) {
            refuses(OUTSIDE, "layer " + h, x -> x.layer(h));
        }
        for (int c : new int[] {-1, 3, MIN, MAX}) {
            refuses(UNKNOWN, "turned " + c, x -> x.turned(c));
            refuses(UNKNOWN, "forced " + c, x -> x.forced(0, c));
        }
        for (int k : new int[] {-1, MIN, MAX, 362880}) {
            refuses(OUTSIDE, "order " + k, x -> x.order(0, k));
            refuses(UNKNOWN, "order, no paper " + k, x -> x.order(5, k));
        }
        refuses(OUTSIDE, "order of a corner that has none", x -> x.order(3, 0));
        for (long row : new long[] {0, -1, -3210, 21, 3211, 4321, 33210, 13210, Long.MIN_VALUE, Long.MAX_VALUE}) {
            refuses(OUTSIDE, "check " + row, x -> x.check(0, row));
            refuses(UNKNOWN, "check, no paper " + row, x -> x.check(5, row));
        }
        for (int f : new int[] {-1, 4, MIN, MAX}) {
            refuses(UNKNOWN, "above " + f, x -> x.above(0, f, 0));
            refuses(UNKNOWN, "above, the other " + f, x -> x.above(0, 0, f));
            refuses(UNKNOWN, "above, both " + f, x -> x.above(0, f, f));
        }
    }

    private static void refusalsOfFolds() {
        for (int what : new int[] {-1, 4, MIN, MAX}) {
            refuses(OUTSIDE, "lies " + what, x -> x.lies(0, 0, what));
            refuses(OUTSIDE, "lies, ahead of STATE " + what, x -> x.lies(1, 0, what));
            refuses(UNKNOWN, "lies, no face " + what, x -> x.lies(0, 4, what));
            refuses(UNKNOWN, "lies, no face of a corner " + what, x -> x.lies(1, 4, what));
            refuses(UNKNOWN, "lies, no paper " + what, x -> x.lies(5, 0, what));
        }
        for (int what = 0; what < 4; what++) {
            int w = what;
            refuses(STATE, "lies of a corner " + w, x -> x.lies(1, 3, w));
            refuses(UNKNOWN, "lies of a corner, no face " + w, x -> x.lies(1, 4, w));
            refuses(UNKNOWN, "lies, face below 0 " + w, x -> x.lies(0, -1, w));
        }
        for (int i : new int[] {-1, 2, 8, MIN, MAX}) {
            refuses(STATE, "step " + i, x -> x.step(i));
        }
        for (int step : new int[] {4, 0, -1, MIN, MAX}) {
            refuses(STATE, "fold of a corner " + step, x -> x.fold(1, step));
            refuses(UNKNOWN, "fold, no paper " + step, x -> x.fold(5, step));
        }
        refuses(STATE, "simple of a corner", x -> x.simple(1));
        refuses(STATE, "flatten of a corner", x -> x.flatten(1));
    }

    private static void refusalsOfPapersThatAreNotThere() {
        for (int p : new int[] {5, 29, 30, -1, MIN, MAX}) {
            refuses(UNKNOWN, "length " + p, x -> x.length(p, 0, 1));
            refuses(UNKNOWN, "mark " + p, x -> x.mark(p, 0, 1));
            refuses(UNKNOWN, "about " + p, x -> x.about(p, 0));
            refuses(UNKNOWN, "crease " + p, x -> x.crease(p, 0, 0));
            refuses(UNKNOWN, "judge " + p, x -> x.judge(p));
            refuses(UNKNOWN, "orders " + p, x -> x.orders(p));
            refuses(UNKNOWN, "order " + p, x -> x.order(p, 0));
            refuses(UNKNOWN, "check " + p, x -> x.check(p, 0));
            refuses(UNKNOWN, "forced " + p, x -> x.forced(p, 0));
            refuses(UNKNOWN, "above " + p, x -> x.above(p, 0, 1));
            refuses(UNKNOWN, "alike " + p, x -> x.alike(p, 0));
            refuses(UNKNOWN, "alike, the other " + p, x -> x.alike(0, p));
            refuses(UNKNOWN, "alike, both " + p, x -> x.alike(p, p));
            refuses(UNKNOWN, "foldings " + p, x -> x.foldings(p));
            refuses(UNKNOWN, "clash " + p, x -> x.clash(p));
            refuses(UNKNOWN, "simple " + p, x -> x.simple(p));
            refuses(UNKNOWN, "fold " + p, x -> x.fold(p, 4));
            refuses(UNKNOWN, "flatten " + p, x -> x.flatten(p));
            refuses(UNKNOWN, "lies " + p, x -> x.lies(p, 0, 0));
        }
    }

    /** Calls that are not refused, yet have nothing to change. */
    private static void answersThatChangeNothing() {
        answers(0, "judge: 0 (what was told stays)", x -> x.judge(2));
        answers(0, "judge of an odd corner", x -> x.judge(3));
        answers(NONE, "simple: NONE if there is no way (what was told stays)", x -> x.simple(4));
        answers(0, "fold: 0 if it cannot be done", x -> x.fold(4, 4));
        answers(0, "fold: no crease is left there", x -> x.fold(0, 12));
        answers(0, "fold: a strip has no rows", x -> x.fold(4, 14));
        answers(0, "flatten of a paper that is flat", x -> x.flatten(4));
        answers(NONE, "inClash", x -> x.inClash(4));
        answers(3, "about", x -> x.about(0, 2));
        answers(2, "crease", x -> x.crease(0, 0, 3));
        answers(0, "orders, none", x -> x.orders(2));
        answers(2, "orders", x -> x.orders(4));
        answers(210, "order", x -> x.order(4, 0));
        answers(20100, "check", x -> x.check(4, 201));
        answers(3, "forced", x -> x.forced(4, 0));
        answers(0, "above", x -> x.above(4, 0, 2));
        answers(0, "alike", x -> x.alike(0, 1));
        answers(2, "foldings", x -> x.foldings(4));
        answers(1, "mark: as it was", x -> x.mark(1, 1, 1));
        answers(2, "length: as it was", x -> x.length(0, 0, 2));
    }

    private static void changesNothing(List<Asked> calls) {
        String before = state(makeObject());
        for (Asked asked : calls) {
            CreaseFlat x = makeObject();
            due.is(asked.name, asked.call.on(x), asked.want);
            due.holds(asked.name + " changes nothing", state(x).equals(before));
        }
    }

    private static CreaseFlat fullObject() {
        CreaseFlat x = makeObject();
        for (int n = 5; n < 30; n++) {
            x.map(1, 2);
        }
        return x;
    }

    private static void room() {
        due.says("Refusals are answers, of several the first one here: UNKNOWN (there is no such paper, face, crease), OUTSIDE (a number is not as said), STATE, ROOM.");
        CreaseFlat x = fullObject();
        due.is("strip, outside ahead of room", x.strip(10), OUTSIDE);
        due.is("strip, outside ahead of room", x.strip(0), OUTSIDE);
        due.is("corner, outside ahead of room", x.corner(1), OUTSIDE);
        due.is("corner, outside ahead of room", x.corner(10), OUTSIDE);
        due.is("map, outside ahead of room", x.map(0, 1), OUTSIDE);
        due.is("map, outside ahead of room", x.map(2, 5), OUTSIDE);
        due.is("strip, room", x.strip(1), ROOM);
        due.is("corner, room", x.corner(2), ROOM);
        due.is("map, room", x.map(3, 3), ROOM);
        due.says("What is refused changes nothing.");
        due.holds("for want of room", state(x).equals(state(fullObject())));
    }

    private static void onlyTheOrder(String name, Call call, long want) {
        CreaseFlat x = makeObject(), y = makeObject();
        due.is(name, call.on(x), want);
        due.holds(name + " tells an order", !orderTold(x).equals(orderTold(y)));
        due.holds(name + " changes no more", (papers(x) + clashTold(x) + wayTold(x)).equals(papers(y) + clashTold(y) + wayTold(y)));
    }

    private static void onlyTheClash(String name, Call call, long want) {
        CreaseFlat x = makeObject(), y = makeObject();
        due.is(name, call.on(x), want);
        due.holds(name + " tells a clash", !clashTold(x).equals(clashTold(y)));
        due.holds(name + " changes no more", (papers(x) + orderTold(x) + wayTold(x)).equals(papers(y) + orderTold(y) + wayTold(y)));
    }

    private static void onlyTheWay(String name, Call call, long want) {
        CreaseFlat x = makeObject(), y = makeObject();
        due.is(name, call.on(x), want);
        due.holds(name + " tells a way", !wayTold(x).equals(wayTold(y)));
        due.holds(name + " changes no more", (papers(x) + orderTold(x) + clashTold(x)).equals(papers(y) + orderTold(y) + clashTold(y)));
    }

    private static void onlyThePapers(String name, Call call, long want) {
        CreaseFlat x = makeObject(), y = makeObject();
        due.is(name, call.on(x), want);
        due.holds(name + " changes a paper", !papers(x).equals(papers(y)));
        due.holds(name + " changes nothing that was told", (orderTold(x) + clashTold(x) + wayTold(x)).equals(orderTold(y) + clashTold(y) + wayTold(y)));
    }

    private static void whatACallChanges() {
        due.says("is told from now on");
        onlyTheOrder("judge", x -> x.judge(4), 1);
        onlyTheOrder("judge of a corner", x -> x.judge(1), 1);
        due.says("the creases that are left are told from now on");
        onlyTheClash("clash of a paper with some order", x -> x.clash(0), 0);
        onlyTheClash("clash, the marks are not to blame", x -> x.clash(3), 0);
        due.says("they are told from now on");
        onlyTheWay("simple", RefusalTest::simpleOfEqualLengths, 2);
        due.says("told from now on");
        onlyThePapers("strip", x -> x.strip(9), 5);
        onlyThePapers("corner", x -> x.corner(9), 5);
        onlyThePapers("map", x -> x.map(3, 3), 5);
        onlyThePapers("length", x -> x.length(0, 3, 5), 2);
        onlyThePapers("length of another", x -> x.length(4, 0, 5), 3);
        onlyThePapers("mark", x -> x.mark(0, 0, MOUNTAIN), VALLEY);
        onlyThePapers("mark of the paper that clashes", x -> x.mark(2, 3, 0), VALLEY);
        onlyThePapers("fold", x -> x.fold(4, 12), 1);
        onlyThePapers("flatten", x -> x.flatten(2), 2);
    }

    private static long simpleOfEqualLengths(CreaseFlat x) {
        x.length(4, 1, 3);
        int folds = x.simple(4);
        x.length(4, 1, 1);
        return folds;
    }

    private static void fiveHundredAndTwelveCalls() {
        due.says("An object is used for at most 512 calls after it has been made");
        CreaseFlat x = withStrip(1, 1, 1, 1);
        x.judge(0);
        x.simple(0);
        // Those were seven calls.
        for (int call = 8; call <= 486; call++) {
            due.is("call " + call, x.orders(0), 16);
        }
        for (int call = 487; call <= 508; call++) {
            due.is("call " + call, x.strip(9), call - 486);
        }
        due.is("call 509", x.layer(3), 3);
        due.is("call 510", x.step(1), 4);
        due.is("call 511", x.strip(1), 23);
        due.is("call 512", x.orders(22), 4536);
    }

    public static void main(String[] args) {
        refusalsOfPapers();
        refusalsOfOrders();
        refusalsOfFolds();
        refusalsOfPapersThatAreNotThere();
        answersThatChangeNothing();
        due.says("What is refused changes nothing.");
        changesNothing(refused);
        due.says("what was told stays");
        changesNothing(harmless);
        room();
        whatACallChanges();
        fiveHundredAndTwelveCalls();
        due.end();
    }
}
