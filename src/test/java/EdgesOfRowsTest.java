/** A test for each boundary that the document names of an object, its rows and their calls (promises 1 to 7). */
public final class EdgesOfRowsTest {
    private static final int BAD = HerOrders.BAD, STATE = HerOrders.STATE;
    private static final int MIN = Integer.MIN_VALUE, MAX = Integer.MAX_VALUE;
    private static final int NOTHING = 1, BEYOND = 2, NOUGHT = 4, SIZE = 5;

    public static void main(String[] args) {
        constants();
        aNewObjectIsEmpty();
        badIsAheadOfFindings();
        stateIsAheadOfFindings();
        rowNumbers();
        rowSizes();
        rowIsAllNought();
        rowRefusedStaysAsItWas();
        layPlaces();
        layValues();
        layOfMissing();
        atPlaces();
        atOfMissing();
        tear();
        copyAllPlaces();
        copyToItself();
        copyInOrderOfRefusals();
        copyOfNone();
        copyOfTooMany();
        meanIsCut();
        meanOfLargeSums();
        meanOfNone();
        Desk.finish();
    }

    private static void constants() {
        Desk.sentence("BAD -1, FULL -2, FINDING -3, STATE -4, SPENT -6, NONE -9");
        Desk.due("BAD", HerOrders.BAD, -1);
        Desk.due("FULL", HerOrders.FULL, -2);
        Desk.due("FINDING", HerOrders.FINDING, -3);
        Desk.due("STATE", HerOrders.STATE, -4);
        Desk.due("SPENT", HerOrders.SPENT, -6);
        Desk.due("NONE", HerOrders.NONE, -9);
    }

    private static void aNewObjectIsEmpty() {
        Desk.sentence("No ROWS, TEXTS, SPEAKERS");
        HerOrders x = new HerOrders();
        for (int what = 0; what <= 10; what++) Desk.due("count(" + what + ")", x.count(what), 0);
        for (int r = 0; r < 6; r++) Desk.due("tear(" + r + ")", x.tear(r), -3);
        for (int t = 0; t < 4; t++) Desk.due("put(" + t + ", 0, 0)", x.put(t, 0, 0), -3);
        for (int i = 0; i < 6; i++) Desk.due("speaker(" + i + ", 0)", x.speaker(i, 0), BAD);
        for (int k = 0; k < 3; k++) Desk.due("on(" + k + ")", x.on(k), -3);
        Desk.due("findings(1)", x.findings(NOTHING), 13);
        for (int f = 2; f <= 5; f++) Desk.due("findings(" + f + ")", x.findings(f), 0);
    }

    private static void badIsAheadOfFindings() {
        Desk.sentence("Refused is, the first of these that fits, in this order: BAD .. FINDING");
        HerOrders x = new HerOrders();
        Desk.refused(x, "row(6, -1)", () -> x.row(6, -1), BAD);
        Desk.refused(x, "lay(6, -1, 0)", () -> x.lay(6, -1, 0), BAD);
        Desk.refused(x, "at(-1, -1)", () -> x.at(-1, -1), BAD);
        Desk.refused(x, "text(4, -1)", () -> x.text(4, -1), BAD);
        Desk.refused(x, "put(4, -1, 0)", () -> x.put(4, -1, 0), BAD);
        Desk.refused(x, "copy(0, 0, 6, 0, -1)", () -> x.copy(0, 0, 6, 0, -1), BAD);
        Desk.refused(x, "on(3)", () -> x.on(3), BAD);
    }

    private static void stateIsAheadOfFindings() {
        Desk.sentence("Refused is, the first of these that fits, in this order: .. STATE .. FINDING");
        HerOrders x = new HerOrders();
        Desk.refused(x, "ways of no ROW and no house", () -> x.ways(0), STATE);
        Desk.refused(x, "heard of no ROW and no house", () -> x.heard(0), STATE);
        x.row(0, 12);
        x.lay(0, 0, 77);
        Desk.refused(x, "off of too many and no house", () -> x.off(0), STATE);
        Desk.refused(x, "odds of too many and no house", () -> x.odds(0, 1), STATE);
        Desk.refused(x, "fourth of too many and no house", () -> x.fourth(0, 1), STATE);
    }

    private static void rowNumbers() {
        Desk.sentence("ROWS 0 .. 5");
        HerOrders x = new HerOrders();
        for (int r = 0; r <= 5; r++) {
            Desk.due("row(" + r + ", 1)", x.row(r, 1), 1);
            Desk.due("count(8)", x.count(8), r + 1);
        }
        for (int r : new int[] {-1, 6, MIN, MAX}) Desk.refused(x, "row(" + r + ", 1)", () -> x.row(r, 1), BAD);
    }

    private static void rowSizes() {
        Desk.sentence("rows of 0 to 40 ints; BAD: also n above 40; SIZE: below 0");
        HerOrders x = new HerOrders();
        for (int n = 0; n <= 40; n++) {
            Desk.due("row(0, " + n + ")", x.row(0, n), n);
            Desk.due("the place behind the last", x.lay(0, n, 1), -3);
            if (n > 0) Desk.told(x, "the last place", x.at(0, n - 1), 0);
        }
        HerOrders y = new HerOrders();
        for (int n : new int[] {41, 42, MAX}) Desk.refused(y, "row(0, " + n + ")", () -> y.row(0, n), BAD);
        for (int n : new int[] {-1, -9, MIN}) Desk.found(y, "row(0, " + n + ")", () -> y.row(0, n), SIZE);
        Desk.due("it is still missing", y.count(8), 0);
    }

    private static void rowIsAllNought() {
        Desk.sentence("A ROW is there with n ints 0");
        HerOrders x = new HerOrders();
        x.row(2, 40);
        for (int i = 0; i < 40; i++) x.lay(2, i, i - 50);
        x.row(2, 1);
        Desk.told(x, "of one", x.at(2, 0), 0);
        x.row(2, 40);
        for (int i = 0; i < 40; i++) Desk.told(x, "anew, place " + i, x.at(2, i), 0);
    }

    private static void rowRefusedStaysAsItWas() {
        Desk.sentence("What is refused changes nothing but finding(), findings()");
        HerOrders x = new HerOrders();
        Desk.lay(x, 1, 4, 5);
        Desk.refused(x, "row(1, 41)", () -> x.row(1, 41), BAD);
        Desk.found(x, "row(1, -1)", () -> x.row(1, -1), SIZE);
        Desk.rowIs(x, "behind a refusal", 1, 4, 5);
    }

    private static void layPlaces() {
        Desk.sentence("Place i of a ROW is v: BAD; BEYOND");
        HerOrders x = new HerOrders();
        x.row(0, 40);
        Desk.told(x, "lay(0, 0, 7)", x.lay(0, 0, 7), 0);
        Desk.told(x, "lay(0, 39, 8)", x.lay(0, 39, 8), 0);
        Desk.told(x, "lay(0, 0, 9)", x.lay(0, 0, 9), 7);
        Desk.told(x, "lay(0, 39, 9)", x.lay(0, 39, 9), 8);
        for (int i : new int[] {-1, 40, MIN, MAX}) Desk.found(x, "lay(0, " + i + ", 1)", () -> x.lay(0, i, 1), BEYOND);
        HerOrders y = new HerOrders();
        y.row(5, 0);
        Desk.found(y, "lay in a ROW without places", () -> y.lay(5, 0, 1), BEYOND);
        y.row(5, 3);
        y.row(5, 2);
        Desk.found(y, "lay in a place that was", () -> y.lay(5, 2, 1), BEYOND);
        for (int r : new int[] {-1, 6, MIN, MAX}) Desk.refused(y, "lay(" + r + ", 0, 1)", () -> y.lay(r, 0, 1), BAD);
    }

    private static void layValues() {
        Desk.sentence("rows of 0 to 40 ints: what it was, told by asked()");
        HerOrders x = new HerOrders();
        x.row(3, 1);
        int was = 0;
        for (int v : new int[] {MAX, MIN, -1, -9, 300, 0, 1}) {
            Desk.told(x, "lay(3, 0, " + v + ")", x.lay(3, 0, v), was);
            was = v;
        }
    }

    private static void layOfMissing() {
        Desk.sentence("NOTHING (a ROW .. that is missing), ahead of BEYOND");
        HerOrders x = new HerOrders();
        Desk.found(x, "lay(0, 0, 1)", () -> x.lay(0, 0, 1), NOTHING);
        Desk.found(x, "lay(0, -1, 1)", () -> x.lay(0, -1, 1), NOTHING);
        x.row(0, 3);
        x.tear(0);
        Desk.found(x, "lay in a torn one", () -> x.lay(0, 0, 1), NOTHING);
    }

    private static void atPlaces() {
        Desk.sentence("Place i of a ROW, told by asked(): BAD; BEYOND");
        HerOrders x = new HerOrders();
        x.row(4, 40);
        x.lay(4, 0, MIN);
        x.lay(4, 39, MAX);
        Desk.told(x, "at(4, 0)", x.at(4, 0), MIN);
        Desk.told(x, "at(4, 39)", x.at(4, 39), MAX);
        for (int i : new int[] {-1, 40, MIN, MAX}) Desk.found(x, "at(4, " + i + ")", () -> x.at(4, i), BEYOND);
        for (int r : new int[] {-1, 6, MIN, MAX}) Desk.refused(x, "at(" + r + ", 0)", () -> x.at(r, 0), BAD);
        x.row(4, 0);
        Desk.found(x, "at of a ROW without places", () -> x.at(4, 0), BEYOND);
    }

    private static void atOfMissing() {
        Desk.sentence("NOTHING (a ROW .. that is missing), ahead of BEYOND");
        HerOrders x = new HerOrders();
        Desk.found(x, "at(0, 0)", () -> x.at(0, 0), NOTHING);
        Desk.found(x, "at(0, 40)", () -> x.at(0, 40), NOTHING);
        x.row(0, 3);
        x.tear(0);
        Desk.found(x, "at of a torn one", () -> x.at(0, 0), NOTHING);
    }

    private static void tear() {
        Desk.sentence("A ROW is missing: 1. BAD; NOTHING");
        HerOrders x = new HerOrders();
        for (int r = 0; r <= 5; r++) Desk.lay(x, r, 9);
        Desk.due("tear(0)", x.tear(0), 1);
        Desk.due("tear(5)", x.tear(5), 1);
        Desk.due("count(8)", x.count(8), 4);
        Desk.told(x, "another one stays", x.at(1, 0), 9);
        Desk.found(x, "tear(0) again", () -> x.tear(0), NOTHING);
        for (int r : new int[] {-1, 6, MIN, MAX}) Desk.refused(x, "tear(" + r + ")", () -> x.tear(r), BAD);
        x.row(0, 1);
        Desk.told(x, "a ROW again", x.at(0, 0), 0);
        x.row(1, 0);
        Desk.due("tear of one without places", x.tear(1), 1);
    }

    private static void copyAllPlaces() {
        Desk.sentence("n places of a ROW, from one on, come to those of another one from one on");
        HerOrders x = new HerOrders();
        x.row(0, 40);
        x.row(5, 40);
        for (int i = 0; i < 40; i++) x.lay(0, i, 100 + i);
        Desk.due("copy of 40", x.copy(0, 0, 5, 0, 40), 1);
        for (int i = 0; i < 40; i++) Desk.told(x, "place " + i, x.at(5, i), 100 + i);
        Desk.due("copy of the last to the first", x.copy(0, 39, 5, 0, 1), 1);
        Desk.told(x, "the first", x.at(5, 0), 139);
        Desk.told(x, "the second", x.at(5, 1), 101);
    }

    private static void copyToItself() {
        Desk.sentence("(perhaps itself) .. as if taken ahead");
        HerOrders x = new HerOrders();
        Desk.lay(x, 3, 1, 2, 3, 4, 5);
        Desk.due("on by one", x.copy(3, 0, 3, 1, 4), 1);
        Desk.rowIs(x, "on by one", 3, 1, 1, 2, 3, 4);
        Desk.lay(x, 3, 1, 2, 3, 4, 5);
        Desk.due("back by two", x.copy(3, 2, 3, 0, 3), 1);
        Desk.rowIs(x, "back by two", 3, 3, 4, 5, 4, 5);
        Desk.due("where it is", x.copy(3, 0, 3, 0, 5), 1);
        Desk.rowIs(x, "where it is", 3, 3, 4, 5, 4, 5);
    }

    private static void copyInOrderOfRefusals() {
        Desk.sentence("BAD; SIZE: n below 0; NOTHING: either; BEYOND .. (In this order.)");
        HerOrders x = new HerOrders();
        Desk.lay(x, 0, 1);
        for (int r : new int[] {-1, 6, MIN, MAX}) {
            Desk.refused(x, "copy from " + r, () -> x.copy(r, 9, 2, 9, -1), BAD);
            Desk.refused(x, "copy to " + r, () -> x.copy(2, 9, r, 9, -1), BAD);
        }
        HerOrders y = new HerOrders();
        Desk.lay(y, 0, 1);
        Desk.found(y, "n -1 ahead of NOTHING", () -> y.copy(2, 9, 3, 9, -1), SIZE);
        Desk.found(y, "n MIN ahead of BEYOND", () -> y.copy(0, 9, 0, 9, MIN), SIZE);
        Desk.found(y, "from a missing one, ahead of BEYOND", () -> y.copy(2, 9, 0, 9, 9), NOTHING);
        Desk.found(y, "to a missing one, ahead of BEYOND", () -> y.copy(0, 9, 2, 9, 9), NOTHING);
        Desk.found(y, "both are missing", () -> y.copy(2, 0, 2, 0, 0), NOTHING);
        Desk.found(y, "beyond both", () -> y.copy(0, 9, 0, 9, 9), BEYOND);
    }

    private static void copyOfNone() {
        Desk.sentence("also with n 0, if i, j is below 0, or above its size");
        HerOrders x = new HerOrders();
        Desk.lay(x, 0, 1, 2);
        x.row(1, 0);
        Desk.due("at the ends", x.copy(0, 2, 1, 0, 0), 1);
        Desk.due("at the other ends", x.copy(1, 0, 0, 2, 0), 1);
        Desk.due("without places", x.copy(1, 0, 1, 0, 0), 1);
        Desk.rowIs(x, "nothing came", 0, 1, 2);
        for (int i : new int[] {-1, 3, MIN, MAX}) {
            Desk.found(x, "from " + i, () -> x.copy(0, i, 1, 0, 0), BEYOND);
            Desk.found(x, "to " + i, () -> x.copy(1, 0, 0, i, 0), BEYOND);
        }
        Desk.found(x, "from 1 of none", () -> x.copy(1, 1, 0, 0, 0), BEYOND);
    }

    private static void copyOfTooMany() {
        Desk.sentence("BEYOND: not so many there");
        HerOrders x = new HerOrders();
        Desk.lay(x, 0, 1, 2, 3);
        Desk.lay(x, 1, 4, 5);
        Desk.found(x, "one more than it has", () -> x.copy(1, 0, 0, 0, 3), BEYOND);
        Desk.found(x, "one more than it takes", () -> x.copy(0, 0, 1, 0, 3), BEYOND);
        Desk.found(x, "one too far on", () -> x.copy(0, 2, 1, 0, 2), BEYOND);
        Desk.found(x, "to one too far on", () -> x.copy(0, 0, 1, 1, 2), BEYOND);
        Desk.found(x, "from -1", () -> x.copy(0, -1, 1, 0, 1), BEYOND);
        Desk.found(x, "to -1", () -> x.copy(0, 0, 1, -1, 1), BEYOND);
        Desk.found(x, "41", () -> x.copy(0, 0, 1, 0, 41), BEYOND);
        Desk.found(x, "i and n that wrap around", () -> x.copy(0, 2, 0, 0, MAX), BEYOND);
        Desk.found(x, "j and n that wrap around", () -> x.copy(0, MAX, 0, MAX, MAX), BEYOND);
        Desk.found(x, "MIN and MAX", () -> x.copy(0, MIN, 0, 0, MAX), BEYOND);
        Desk.rowIs(x, "nothing came", 0, 1, 2, 3);
        Desk.rowIs(x, "nothing came", 1, 4, 5);
    }

    private static void meanIs(int want, int... values) {
        HerOrders x = new HerOrders();
        Desk.lay(x, 5, values);
        Desk.told(x, "mean(5)", x.mean(5), want);
    }

    private static void meanIsCut() {
        Desk.sentence("The mean of a ROW's ints, cut");
        meanIs(6, 6);
        meanIs(3, 3, 4);
        meanIs(-3, -3, -4);
        meanIs(0, 0, 1);
        meanIs(0, -1, 0);
        meanIs(0, 0, 0, 0);
        meanIs(1, 1, 2, 2);
        meanIs(-1, -1, -2, -2);
    }

    private static void meanOfLargeSums() {
        Desk.sentence("The mean of a ROW's ints (their sum is no int)");
        int[] most = new int[40];
        int[] least = new int[40];
        for (int i = 0; i < 40; i++) {
            most[i] = MAX;
            least[i] = MIN;
        }
        meanIs(MAX, most);
        meanIs(MIN, least);
        meanIs(0, MIN, MAX);
        meanIs(MAX - 1, MAX, MAX, MAX - 1);
    }

    private static void meanOfNone() {
        Desk.sentence("mean: BAD; NOTHING; NOUGHT (shared among none)");
        HerOrders x = new HerOrders();
        Desk.found(x, "of a missing one", () -> x.mean(0), NOTHING);
        x.row(0, 0);
        Desk.found(x, "of one without places", () -> x.mean(0), NOUGHT);
        x.tear(0);
        Desk.found(x, "of a torn one", () -> x.mean(0), NOTHING);
        for (int r : new int[] {-1, 6, MIN, MAX}) Desk.refused(x, "mean(" + r + ")", () -> x.mean(r), BAD);
    }
}
