/** Promises 1 to 13. */
public final class RowsTextsHousesTest {
    private static final int BAD = HerOrders.BAD, STATE = HerOrders.STATE, NONE = HerOrders.NONE;
    private static final int NOTHING = 1, BEYOND = 2, UNLIKE = 3, NOUGHT = 4, SIZE = 5;

    public static void main(String[] args) {
        newObject();
        row();
        lay();
        at();
        tear();
        copy();
        mean();
        text();
        put();
        fault();
        house();
        speaker();
        mark();
        Desk.finish();
    }

    private static void newObject() {
        HerOrders x = new HerOrders();
        Desk.due("new: finding()", x.finding(), 0);
        for (int what = 0; what <= 10; what++) Desk.due("new: count(" + what + ")", x.count(what), 0);
        for (int r = 0; r < 6; r++) Desk.due("new: at", x.at(r, 0), -3);
        for (int t = 0; t < 4; t++) Desk.due("new: fault", x.fault(t), -3);
        Desk.due("new: findings(1)", x.findings(1), 10);
        Desk.due("new: asked()", x.asked(), 0);
        Desk.due("new: upper()", x.upper(), 0);
        Desk.due("new: lower()", x.lower(), 1);
    }

    private static void row() {
        HerOrders x = new HerOrders();
        Desk.due("row(0, 40)", x.row(0, 40), 40);
        Desk.told(x, "at(0, 39)", x.at(0, 39), 0);
        Desk.due("row(5, 0)", x.row(5, 0), 0);
        Desk.due("count(8)", x.count(8), 2);
        x.lay(0, 1, 7);
        Desk.due("row(0, 2)", x.row(0, 2), 2);
        Desk.rowIs(x, "a row anew", 0, 0, 0);
        Desk.refused(x, "row(0, 41)", () -> x.row(0, 41), BAD);
        Desk.refused(x, "row(6, 1)", () -> x.row(6, 1), BAD);
        Desk.refused(x, "row(-1, -1)", () -> x.row(-1, -1), BAD);
        Desk.refused(x, "row(0, MAX)", () -> x.row(0, Integer.MAX_VALUE), BAD);
        Desk.found(x, "row(0, -1)", () -> x.row(0, -1), SIZE);
        Desk.found(x, "row(0, MIN)", () -> x.row(0, Integer.MIN_VALUE), SIZE);
    }

    private static void lay() {
        HerOrders x = new HerOrders();
        x.row(3, 2);
        Desk.told(x, "lay(3, 1, 7)", x.lay(3, 1, 7), 0);
        Desk.told(x, "lay(3, 1, MIN)", x.lay(3, 1, Integer.MIN_VALUE), 7);
        Desk.told(x, "lay(3, 1, 2)", x.lay(3, 1, 2), Integer.MIN_VALUE);
        Desk.refused(x, "lay(6, 0, 1)", () -> x.lay(6, 0, 1), BAD);
        Desk.refused(x, "lay(-1, 0, 1)", () -> x.lay(-1, 0, 1), BAD);
        Desk.found(x, "lay(2, 9, 1)", () -> x.lay(2, 9, 1), NOTHING);
        Desk.found(x, "lay(3, 2, 1)", () -> x.lay(3, 2, 1), BEYOND);
        Desk.found(x, "lay(3, -1, 1)", () -> x.lay(3, -1, 1), BEYOND);
        Desk.rowIs(x, "lay", 3, 0, 2);
    }

    private static void at() {
        HerOrders x = new HerOrders();
        Desk.lay(x, 0, 5, -6);
        Desk.told(x, "at(0, 0)", x.at(0, 0), 5);
        Desk.told(x, "at(0, 1)", x.at(0, 1), -6);
        Desk.refused(x, "at(6, 0)", () -> x.at(6, 0), BAD);
        Desk.found(x, "at(1, 0)", () -> x.at(1, 0), NOTHING);
        Desk.found(x, "at(0, 2)", () -> x.at(0, 2), BEYOND);
        Desk.found(x, "at(0, MIN)", () -> x.at(0, Integer.MIN_VALUE), BEYOND);
    }

    private static void tear() {
        HerOrders x = new HerOrders();
        Desk.lay(x, 4, 1);
        Desk.due("tear(4)", x.tear(4), 1);
        Desk.due("count(8)", x.count(8), 0);
        Desk.found(x, "tear(4)", () -> x.tear(4), NOTHING);
        Desk.refused(x, "tear(6)", () -> x.tear(6), BAD);
        Desk.refused(x, "tear(-1)", () -> x.tear(-1), BAD);
    }

    private static void copy() {
        HerOrders x = new HerOrders();
        Desk.lay(x, 0, 1, 2, 3, 4);
        Desk.lay(x, 1, 9, 9);
        Desk.due("copy(0, 2, 1, 0, 2)", x.copy(0, 2, 1, 0, 2), 1);
        Desk.rowIs(x, "copy", 1, 3, 4);
        Desk.due("copy ahead", x.copy(0, 0, 0, 1, 3), 1);
        Desk.rowIs(x, "copy ahead", 0, 1, 1, 2, 3);
        Desk.due("copy back", x.copy(0, 1, 0, 0, 3), 1);
        Desk.rowIs(x, "copy back", 0, 1, 2, 3, 3);
        Desk.due("copy none", x.copy(0, 4, 1, 2, 0), 1);
        Desk.refused(x, "copy(6, ..)", () -> x.copy(6, 0, 0, 0, -1), BAD);
        Desk.refused(x, "copy(.., 6, ..)", () -> x.copy(0, 0, 6, 0, -1), BAD);
        Desk.found(x, "copy n -1 of a missing one", () -> x.copy(2, 0, 0, 0, -1), SIZE);
        Desk.found(x, "copy from a missing one", () -> x.copy(2, 0, 0, 9, 1), NOTHING);
        Desk.found(x, "copy to a missing one", () -> x.copy(0, 9, 2, 0, 0), NOTHING);
        Desk.found(x, "copy too many", () -> x.copy(0, 2, 0, 0, 3), BEYOND);
        Desk.found(x, "copy to too few", () -> x.copy(0, 0, 1, 1, 2), BEYOND);
        Desk.found(x, "copy none from below", () -> x.copy(0, -1, 1, 0, 0), BEYOND);
        Desk.found(x, "copy none to below", () -> x.copy(0, 0, 1, -1, 0), BEYOND);
        Desk.found(x, "copy none from above", () -> x.copy(0, 5, 1, 0, 0), BEYOND);
        Desk.found(x, "copy none to above", () -> x.copy(0, 0, 1, 3, 0), BEYOND);
        Desk.found(x, "copy MAX", () -> x.copy(0, 1, 1, 1, Integer.MAX_VALUE), BEYOND);
    }

    private static void mean() {
        HerOrders x = new HerOrders();
        Desk.lay(x, 0, 1, 2, 5);
        Desk.told(x, "mean 8 by 3", x.mean(0), 2);
        Desk.lay(x, 0, -1, -2, -5);
        Desk.told(x, "mean -8 by 3", x.mean(0), -2);
        Desk.lay(x, 0, Integer.MAX_VALUE, Integer.MAX_VALUE, Integer.MAX_VALUE);
        Desk.told(x, "mean of large ones", x.mean(0), Integer.MAX_VALUE);
        Desk.lay(x, 0, Integer.MIN_VALUE);
        Desk.told(x, "mean of the least", x.mean(0), Integer.MIN_VALUE);
        x.row(1, 0);
        Desk.found(x, "mean of none", () -> x.mean(1), NOUGHT);
        Desk.found(x, "mean of a missing one", () -> x.mean(2), NOTHING);
        Desk.refused(x, "mean(6)", () -> x.mean(6), BAD);
    }

    private static void text() {
        HerOrders x = new HerOrders();
        Desk.due("text(3, 60)", x.text(3, 60), 60);
        Desk.due("a blank", x.put(3, 59, 5), 1032);
        Desk.due("text anew", x.text(3, 60), 60);
        Desk.due("a blank anew", x.put(3, 59, 5), 1032);
        Desk.due("text(0, 0)", x.text(0, 0), 0);
        Desk.due("count(9)", x.count(9), 2);
        Desk.refused(x, "text(0, 61)", () -> x.text(0, 61), BAD);
        Desk.refused(x, "text(4, 1)", () -> x.text(4, 1), BAD);
        Desk.refused(x, "text(-1, -1)", () -> x.text(-1, -1), BAD);
        Desk.found(x, "text(0, -1)", () -> x.text(0, -1), SIZE);
    }

    private static void put() {
        HerOrders x = new HerOrders();
        x.text(0, 1);
        int asked = x.asked();
        Desk.due("put 127", x.put(0, 0, 127), 1032);
        Desk.due("put 128", x.put(0, 0, 128), 1127);
        Desk.due("put -129", x.put(0, 0, -129), 872);
        Desk.due("put 256", x.put(0, 0, 256), 1127);
        Desk.due("put 0", x.put(0, 0, 0), 1000);
        Desk.due("asked()", x.asked(), asked);
        Desk.refused(x, "put(4, 0, 1)", () -> x.put(4, 0, 1), BAD);
        Desk.found(x, "put(1, 0, 1)", () -> x.put(1, 0, 1), NOTHING);
        Desk.found(x, "put(0, 1, 1)", () -> x.put(0, 1, 1), BEYOND);
        Desk.found(x, "put(0, -1, 1)", () -> x.put(0, -1, 1), BEYOND);
    }

    private static void faultIs(String text, int want) {
        HerOrders x = new HerOrders();
        Desk.write(x, 2, text);
        Desk.due("fault of '" + text + "'", x.fault(2), want);
        Desk.due("house by '" + text + "'", x.house(2), want == NONE ? text.replaceAll("[^a-z]", "").length() : STATE);
    }

    private static void fault() {
        faultIs("v0001", NONE);
        faultIs("  v0001p6359   s1125", NONE);
        faultIs("n1234m1234c1234  ", NONE);
        faultIs("v0001v0001v0001v0001v0001v0001", NONE);
        faultIs("v0001v0001v0001v0001v0001v0001 v", 31);
        faultIs("v0001v0001v0001v0001v0001v0001?", 30);
        faultIs("", 0);
        faultIs("   ", 3);
        faultIs("?", 0);
        faultIs("V0001", 0);
        faultIs(" 70001", 1);
        faultIs("v", 1);
        faultIs("v0", 2);
        faultIs("v9", 2);
        faultIs("v00", 3);
        faultIs("v000", 4);
        faultIs("v64", 1);
        faultIs("v6400", 1);
        faultIs("v9901", 1);
        faultIs("v 0001", 1);
        faultIs("v0 001", 2);
        faultIs("v7x01", 2);
        faultIs("vx", 1);
        faultIs("v0061", 3);
        faultIs("v00 1", 3);
        faultIs("v0000", 4);
        faultIs("v000 ", 4);
        faultIs("v0001p64", 6);
        faultIs("v0001 x", 6);
        HerOrders x = new HerOrders();
        Desk.refused(x, "fault(4)", () -> x.fault(4), BAD);
        Desk.found(x, "fault(0)", () -> x.fault(0), NOTHING);
        Desk.write(x, 0, "v0001");
        x.put(0, 0, 118 + 256);
        Desk.due("fault of a cut byte", x.fault(0), NONE);
        x.put(0, 0, -118);
        Desk.due("fault of a byte below 0", x.fault(0), 0);
        Desk.write(x, 0, "v0001p6359");
        for (int n = 6; n < 10; n++) {
            Desk.write(x, 0, "v0001p6359".substring(0, n));
            Desk.due("fault of a shorter TEXT where a longer one was", x.fault(0), n);
            Desk.write(x, 0, "v0001p6359");
        }
        Desk.write(x, 1, " ".repeat(58) + "v0");
        Desk.due("fault of the longest TEXT", x.fault(1), 60);
        Desk.write(x, 1, " ".repeat(55) + "v6359");
        Desk.due("the longest TEXT", x.fault(1), NONE);
    }

    private static void house() {
        HerOrders x = Desk.houseOf("v6311 v6312");
        x.say(0, 1);
        x.end();
        x.say(1, 1);
        x.hour();
        x.keep(0);
        x.keep(2);
        Desk.write(x, 1, "p0913");
        Desk.write(x, 2, "p0913 ?");
        Desk.refused(x, "house with a FAULT", () -> x.house(2), STATE);
        Desk.found(x, "house by a missing TEXT", () -> x.house(3), NOTHING);
        Desk.refused(x, "house(4)", () -> x.house(4), BAD);
        Desk.due("house(1)", x.house(1), 1);
        int[] counts = {1, 0, 0, 0, 0, 3, 9, 1, 0, 3, 0};
        for (int what = 0; what < counts.length; what++) Desk.due("count(" + what + ")", x.count(what), counts[what]);
        for (int k = 0; k < 3; k++) Desk.due("on(" + k + ")", x.on(k), -3);
        Desk.due("house(0) again", x.house(0), 2);
        Desk.told(x, "BREATH anew", x.speaker(0, 4), 1);
    }

    private static void speaker() {
        HerOrders x = Desk.houseOf("v6312 p0923 s0134 n0245 m0356 c6307");
        for (int kind = 0; kind < 6; kind++) Desk.told(x, "KIND", x.speaker(kind, 0), kind);
        Desk.told(x, "WORDS", x.speaker(1, 1), 9);
        Desk.told(x, "ROOM", x.speaker(1, 2), 2);
        Desk.told(x, "BREATH", x.speaker(5, 3), 7);
        x.say(0, 0);
        x.say(1, 0);
        x.say(0, 5);
        Desk.told(x, "BREATH as told", x.speaker(0, 3), 2);
        Desk.told(x, "BREATH left", x.speaker(0, 4), 0);
        Desk.told(x, "WORDS one said", x.speaker(0, 5), 2);
        Desk.told(x, "WORDS another said", x.speaker(1, 5), 1);
        x.walk(1, 5);
        Desk.told(x, "ROOM now", x.speaker(1, 2), 5);
        x.end();
        Desk.told(x, "WORDS of the next ORDER", x.speaker(0, 5), 0);
        Desk.refused(x, "speaker(6, 0)", () -> x.speaker(6, 0), BAD);
        Desk.refused(x, "speaker(-1, 0)", () -> x.speaker(-1, 0), BAD);
        Desk.refused(x, "speaker(0, 6)", () -> x.speaker(0, 6), BAD);
        Desk.refused(x, "speaker(0, -1)", () -> x.speaker(0, -1), BAD);
        HerOrders y = new HerOrders();
        Desk.refused(y, "speaker(0, 0) of none", () -> y.speaker(0, 0), BAD);
    }

    private static void mark() {
        HerOrders x = Desk.houseOf("v6339 p0931 s0131 n0234 m2935 c3239");
        Desk.due("PARROT, no WORD yet", x.mark(1, 1), 0);
        Desk.due("CAGE as PARROT, no WORD yet", x.mark(5, 1), 0);
        Desk.due("STAIR now", x.mark(2, 2), 0);
        Desk.due("NEPHEW at first", x.mark(3, 3), 4);
        Desk.due("MAID of even numbers", x.mark(4, 4), 3);
        Desk.due("CAGE and who is in its ROOM", x.mark(5, 5), 5);
        x.say(0, 4);
        Desk.due("PARROT, a WORD he has not", x.mark(1, 1), 1);
        Desk.due("CAGE, 4 and not 5 that it has", x.mark(5, 1), 1);
        Desk.due("NEPHEW behind a WORD", x.mark(3, 3), 4);
        x.say(1, 3);
        Desk.due("PARROT who spoke last, without BREATH", x.mark(1, 1), 0);
        Desk.due("CAGE, 3 and 4", x.mark(5, 1), 2);
        x.walk(0, 0);
        Desk.due("CAGE, one gone", x.mark(5, 5), 4);
        Desk.due("NEPHEW, one far, one spoke last", x.mark(3, 3), 3);
        Desk.due("MAID as NEPHEW", x.mark(4, 3), 3);
        x.hour();
        Desk.due("STAIR in an odd HOUR", x.mark(2, 2), 1);
        Desk.found(x, "VOICE as PARROT", () -> x.mark(0, 1), UNLIKE);
        Desk.found(x, "NEPHEW as MAID", () -> x.mark(3, 4), UNLIKE);
        Desk.found(x, "PARROT as CAGE", () -> x.mark(1, 5), UNLIKE);
        Desk.found(x, "MAID as CAGE", () -> x.mark(4, 5), UNLIKE);
        Desk.found(x, "CAGE as NEPHEW", () -> x.mark(5, 3), UNLIKE);
        Desk.refused(x, "KIND 0", () -> x.mark(0, 0), BAD);
        Desk.refused(x, "KIND 6", () -> x.mark(0, 6), BAD);
        Desk.refused(x, "KIND -1", () -> x.mark(0, -1), BAD);
        Desk.refused(x, "SPEAKER 6", () -> x.mark(6, 1), BAD);
        HerOrders y = Desk.houseOf("c2119 v6319");
        y.say(1, 5);
        Desk.due("CAGE behind 5: 5 and not 0 that it has", y.mark(0, 1), 1);
        HerOrders z = Desk.houseOf("c4219 v6319 n0113");
        z.say(1, 5);
        Desk.due("CAGE behind 5: 0 and not 5 that it has", z.mark(0, 1), 1);
        for (int k = 0; k < 7; k++) z.say(k % 2 == 0 ? 0 : 1, 5);
        Desk.due("8 WORDS", z.count(3), 8);
        Desk.due("NEPHEW when nobody can", z.mark(2, 3), 0);
        Desk.due("CAGE with 8 WORDS aside", z.mark(0, 1), 1);
    }
}
