/** Promises 23 to 27: displacements told by hand, and crossings. */
public final class ShiftPromisesTest {
    public static void main(String[] args) {
        shift();
        stretch();
        work();
        proves();
        provesEdges();
        cross();
        crossPlaces();
        crossInOrder();
        crossOfNeighbours();
        crossNot();
        Due.end();
    }

    private static void due(String call, long got, long want) { Due.due(call, got, want); }

    private static void shift() {
        LeastFrames x = Due.points(0, 0, 1, 0);
        due("23 at first 0", x.shift(1, 0, 999), 0);
        due("23 what it was", x.shift(1, 0, -999), 999);
        due("23 what it was", x.shift(1, 0, 1), -999);
        due("23 y is another", x.shift(1, 1, 2), 0);
        due("23 above", x.shift(1, 0, 1000), Due.LEAST_INT);
        due("23 below", x.shift(1, 0, -1000), Due.LEAST_INT);
        due("23 axis", x.shift(1, 2, 0), Due.LEAST_INT);
        due("23 axis", x.shift(1, -1, 0), Due.LEAST_INT);
        due("23 no such point", x.shift(2, 0, 0), Due.LEAST_INT);
        due("23 no such point", x.shift(-1, 0, 0), Due.LEAST_INT);
        due("23 x is kept", x.info(1, 5), 1);
        due("23 y is kept", x.info(1, 6), 2);
        due("23 the other has none", x.info(0, 5), 0);
    }

    private static void stretch() {
        LeastFrames x = Due.points(3, 4, 1, 1);
        due("24 none", x.stretch(0, 0), 0);
        due("24 0 by 1", x.stretch(0, 1), 1);
        x.shift(0, 0, 5);
        // (0 - 5) times (1 - 3) twelfths
        due("24 x of the lesser one", x.stretch(0, 0), 5);
        due("24 below", x.stretch(0, 1), 6);
        x.shift(1, 0, 8);
        due("24 x of both", x.stretch(0, 0), -1);
        due("24 below", x.stretch(0, 1), 2);
        x.shift(1, 1, 7);
        x.shift(0, 1, -4);
        // (8 - 5) times -2 and (7 + 4) times -3: -39 twelfths
        due("24 all", x.stretch(0, 0), -13);
        due("24 below", x.stretch(0, 1), 4);
        x.hold(0, 2);
        due("24 held in y", x.stretch(0, 0), -9);
        due("24 below", x.stretch(0, 1), 4);
        x.hold(1, 1);
        due("24 the other held in x", x.stretch(0, 0), -11);
        due("24 below", x.stretch(0, 1), 12);
        x.hold(0, 3);
        x.hold(1, 3);
        due("24 all held", x.stretch(0, 0), 0);
        due("24 below", x.stretch(0, 1), 1);
        due("24 what", x.stretch(0, 2), Due.BAD);
        due("24 what", x.stretch(0, -1), Due.BAD);
        due("24 no such pair", x.stretch(1, 0), Due.BAD);
        due("24 no such pair", x.stretch(-1, 0), Due.BAD);
        x = Due.points(0, 0, 4, 4);
        x.shift(0, 0, -999);
        x.shift(0, 1, -999);
        x.shift(1, 0, 999);
        x.shift(1, 1, 999);
        due("24 the greatest", x.stretch(0, 0), 1332);
        due("24 below", x.stretch(0, 1), 1);
    }

    private static void work() {
        LeastFrames x = Due.points(0, 0, 1, 0);
        due("25 none", x.work(0), 0);
        due("25 0 by 1", x.work(1), 1);
        x.load(0, 0, 3);
        x.load(1, 1, -4);
        x.shift(0, 0, 5);
        x.shift(1, 1, 7);
        due("25 15 less 28 twelfths", x.work(0), -13);
        due("25 below", x.work(1), 12);
        x.hold(1, 2);
        due("25 held in y it does none", x.work(0), 5);
        due("25 below", x.work(1), 4);
        x.hold(0, 2);
        due("25 held in y it does in x", x.work(0), 5);
        x.hold(0, 1);
        due("25 held in x it does none", x.work(0), 0);
        due("25 below", x.work(1), 1);
        due("25 what", x.work(2), Due.BAD);
        due("25 what", x.work(-1), Due.BAD);
    }

    private static void proves() {
        LeastFrames x = Due.bracket();
        x.bar(1);
        x.bar(2);
        due("26 no shifts", x.proves(), 1);
        x.shift(2, 0, -48);
        due("26 bar 1 is at its bound", x.proves(), 1);
        x.shift(2, 1, -164);
        due("26 both are", x.stretch(2, 0), 25);
        due("26 work is least", x.proves(), 2);
        x.shift(2, 1, -163);
        due("26 less work", x.proves(), 1);
        x.shift(2, 1, -165);
        due("26 bar 2 beyond", x.proves(), 0);
        x.shift(2, 1, -164);
        x.shift(2, 0, -49);
        due("26 bar 1 beyond, pushed", x.proves(), 0);
        x.shift(2, 0, 48);
        x.shift(2, 1, 164);
        due("26 the other way round work is below 0", x.proves(), 1);
        x.load(2, 1, 6);
        due("26 for the other load it proves", x.proves(), 2);
        x.load(2, 1, -6);
        x.shift(2, 0, -48);
        x.shift(2, 1, -164);
        due("26 it proves again", x.proves(), 2);
        x.load(2, 1, -9);
        due("26 for more load, too", x.proves(), 2);
        x.load(2, 0, 9);
        due("26 bar 1 still pushes", x.proves(), 2);
        x.load(2, 1, -3);
        due("26 not where bar 1 pulls", x.proves(), 1);
    }

    private static void provesEdges() {
        LeastFrames x = Due.bracket();
        x.shift(2, 1, -999);
        due("26 no bars, UNBORNE", x.proves(), 1);
        x.bar(2);
        due("26 UNBORNE, not BOUNDED", x.proves(), 0);
        x.shift(2, 1, 0);
        due("26 UNBORNE, BOUNDED", x.proves(), 1);
        x.bar(2);
        x.bar(0);
        x.shift(0, 0, 999);
        x.shift(1, 1, 999);
        due("26 held points do not stretch it", x.proves(), 1);
        x.load(2, 1, 0);
        due("26 nothing to bear, no work", x.proves(), 2);
        x.hold(1, 1);
        due("26 it does not hold any more", x.proves(), 0);
    }

    private static void asCrossing(LeastFrames x, int k, int... told) {
        for (int what = 0; what <= 5; what++) {
            due("27 cross(" + k + ", " + what + ")", x.cross(k, what), told[what]);
        }
    }

    /** Bars 0 (points 0, 1) and 5 (points 2, 3), each borne by its first point, pulled at its second one. */
    private static LeastFrames twoBars(int... places) {
        LeastFrames x = Due.points(places);
        x.hold(0, 3);
        x.hold(2, 3);
        for (int p = 1; p <= 3; p += 2) {
            for (int axis = 0; axis < 2; axis++) {
                x.load(p, axis, places[2 * p + axis] - places[2 * p - 2 + axis]);
            }
        }
        x.bar(0);
        x.bar(5);
        return x;
    }

    private static void cross() {
        LeastFrames x = twoBars(0, 0, 4, 4, 0, 4, 4, 0);
        due("27 frame", x.frame(), 33);
        asCrossing(x, 0, 0, 5, 2, 1, 2, 1);
        due("27 how many", x.count(6), 1);
        due("27 not so many", x.cross(1, 0), LeastFrames.BAD);
        due("27 not so many", x.cross(Integer.MAX_VALUE, 0), LeastFrames.BAD);
        due("27 k below 0", x.cross(-1, 0), LeastFrames.BAD);
        due("27 k the least", x.cross(Integer.MIN_VALUE, 0), LeastFrames.BAD);
        due("27 what", x.cross(0, 6), LeastFrames.BAD);
        due("27 what", x.cross(0, -1), LeastFrames.BAD);
        x.load(3, 0, 0);
        x.load(3, 1, 0);
        due("27 one bar is not of the frame", x.cross(0, 0), LeastFrames.BAD);
        x.load(1, 0, 0);
        x.load(1, 1, 0);
        due("27 no bar is of the frame", x.cross(0, 0), LeastFrames.BAD);
        x.load(3, 0, 1);
        due("27 UNBORNE", x.cross(0, 0), LeastFrames.NOT);
        due("27 UNBORNE ahead of not so many", x.cross(5, 0), LeastFrames.NOT);
        due("27 what ahead of UNBORNE", x.cross(0, 6), LeastFrames.BAD);
        due("27 k below 0 ahead of UNBORNE", x.cross(-1, 0), LeastFrames.BAD);
        due("27 how many of none", x.count(6), LeastFrames.NONE);
    }

    private static void crossPlaces() {
        for (int turn = 0; turn < 8; turn++) {
            asCrossing(turned(turn, 0, 0, 4, 3, 0, 3, 3, 0), 0, 0, 5, 12, 7, 9, 7);
            asCrossing(turned(turn, 2, 0, 2, 4, 0, 1, 4, 2), 0, 0, 5, 2, 1, 3, 2);
            asCrossing(turned(turn, 0, 0, 1, 2, 0, 1, 1, 0), 0, 0, 5, 1, 3, 2, 3);
            asCrossing(turned(turn, 0, 0, 1, 1, 0, 1, 1, 0), 0, 0, 5, 1, 2, 1, 2);
        }
    }

    /** The same two bars from their other ends (bits 1, 2), or in the other order (bit 4). */
    private static LeastFrames turned(int turn, int... p) {
        int a = (turn & 1) == 0 ? 0 : 2;
        int b = (turn & 2) == 0 ? 0 : 2;
        int first = (turn & 4) == 0 ? 0 : 4;
        int second = 4 - first;
        return twoBars(p[first + a], p[first + a + 1], p[first + 2 - a], p[first + 3 - a],
            p[second + b], p[second + b + 1], p[second + 2 - b], p[second + 3 - b]);
    }

    /** Bars 2 (points 1, 2) and 3 (points 0, 3). */
    private static void crossOfNeighbours() {
        LeastFrames x = Due.points(0, 1, 1, 0, 2, 4, 4, 2);
        x.hold(0, 3);
        x.hold(1, 3);
        x.load(2, 0, 1);
        x.load(2, 1, 4);
        x.load(3, 0, 4);
        x.load(3, 1, 1);
        x.bar(2);
        x.bar(3);
        due("27 frame", x.frame(), 12);
        // y = 4 (x - 1) and y = 1 + x / 4
        asCrossing(x, 0, 2, 3, 4, 3, 4, 3);
        due("27 how many", x.count(6), 1);
        due("27 not so many", x.cross(1, 0), LeastFrames.BAD);
    }

    private static void crossInOrder() {
        LeastFrames x = Due.points(0, 2, 4, 2, 2, 0, 1, 4, 3, 4);
        x.hold(0, 3);
        x.hold(2, 3);
        x.load(1, 0, 4);
        x.load(3, 0, -1);
        x.load(3, 1, 4);
        x.load(4, 0, 1);
        x.load(4, 1, 4);
        x.bar(0);
        x.bar(5);
        x.bar(8);
        due("27 frame", x.frame(), 289);
        due("27 how many", x.count(6), 2);
        asCrossing(x, 0, 0, 5, 3, 2, 2, 1);
        asCrossing(x, 1, 0, 8, 5, 2, 2, 1);
        due("27 not so many", x.cross(2, 0), LeastFrames.BAD);
        // The same, with the bar that crosses both between them in number.
        x = Due.points(0, 4, 2, 0, 4, 2, 0, 2, 4, 4);
        x.hold(1, 3);
        x.hold(3, 3);
        x.load(0, 0, -2);
        x.load(0, 1, 4);
        x.load(2, 0, 4);
        x.load(4, 0, 2);
        x.load(4, 1, 4);
        x.bar(0);
        x.bar(5);
        x.bar(7);
        due("27 frame", x.frame(), 161);
        asCrossing(x, 0, 0, 5, 1, 1, 2, 1);
        asCrossing(x, 1, 5, 7, 3, 1, 2, 1);
        due("27 not so many", x.cross(2, 0), LeastFrames.BAD);
    }

    private static void none(String why, LeastFrames x, int frame) {
        due("27 frame: " + why, x.frame(), frame);
        due("27 none: " + why, x.cross(0, 0), LeastFrames.BAD);
        due("27 none to count: " + why, x.count(6), 0);
    }

    private static void crossNot() {
        for (int turn = 0; turn < 8; turn++) {
            none("one ends within the other", turned(turn, 0, 0, 4, 0, 2, 0, 2, 4), 33);
            none("one stops short of the other", turned(turn, 0, 0, 4, 0, 2, 1, 2, 4), 33);
            none("one is far from the other's end", turned(turn, 2, 0, 2, 4, 3, 1, 4, 1), 33);
            none("alike in their course", turned(turn, 0, 0, 4, 4, 0, 1, 3, 4), 33);
            none("along each other", turned(turn, 0, 0, 3, 0, 1, 0, 4, 0), 33);
        }
        none("a point in common", bracket(), 6);
    }

    private static LeastFrames bracket() {
        LeastFrames x = Due.bracket();
        x.all();
        return x;
    }
}
