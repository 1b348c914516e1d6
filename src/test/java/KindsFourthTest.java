/** Promises 31 to 35. */
public final class KindsFourthTest {
    private static final int BAD = HerOrders.BAD, STATE = HerOrders.STATE, NONE = HerOrders.NONE;
    private static final int NOTHING = 1, UNLIKE = 3, SIZE = 5;
    private static final int V = 1, P = 2, S = 4, N = 8, M = 16, C = 32;

    public static void main(String[] args) {
        kinds();
        test();
        fourth();
        off();
        struck();
        Desk.finish();
    }

    private static void kindsBy(HerOrders x, int want, int... triples) {
        Desk.lay(x, 0, triples);
        Desk.due("kinds", x.kinds(0, 0), want);
    }

    private static void kinds() {
        HerOrders x = Desk.houseOf("m1712 v6319");
        kindsBy(x, V + P + S + N + M + C);
        kindsBy(x, V + P + S + C, NONE, 0, 1);
        kindsBy(x, N + M, NONE, 0, 0);
        kindsBy(x, V + P + S + N + C, 2, 0, 1);
        kindsBy(x, M, 2, 0, 0);
        kindsBy(x, P + C, 3, 3, 1);
        kindsBy(x, C, 2, 3, 1);
        kindsBy(x, V + P + S + N + M, 2, 3, 0);
        kindsBy(x, P, 3, 3, 1, 2, 3, 0);
        kindsBy(x, 0, 3, 3, 1, 3, 3, 0);
        kindsBy(x, 0, NONE, 3, 1);
        HerOrders odd = Desk.houseOf("v3412 v6319");
        odd.hour();
        kindsBy(odd, V + P + N + M + C, 2, 5, 1);
        kindsBy(odd, S, 2, 5, 0);
        kindsBy(odd, C, 5, 0, 1);
        HerOrders spent = Desk.houseOf("v0101 v6359");
        spent.say(0, 0);
        kindsBy(spent, V + P + S + N + C, 4, 0, 1);
        refusalsOfTriples();
    }

    private static void refusalsOfTriples() {
        HerOrders x = Desk.houseOf("v0101");
        Desk.refused(x, "kinds(1, 0)", () -> x.kinds(1, 0), BAD);
        Desk.refused(x, "kinds(0, 6)", () -> x.kinds(0, 6), BAD);
        Desk.refused(x, "test(-1, 0)", () -> x.test(-1, 0), BAD);
        Desk.refused(x, "test(0, -1)", () -> x.test(0, -1), BAD);
        Desk.found(x, "kinds of a missing ROW", () -> x.kinds(0, 0), NOTHING);
        Desk.found(x, "test of a missing ROW", () -> x.test(0, 0), NOTHING);
        Desk.lay(x, 0, 9, 9, 9, 9);
        Desk.found(x, "kinds of 4", () -> x.kinds(0, 0), SIZE);
        Desk.found(x, "test of 4", () -> x.test(0, 0), SIZE);
        int[][] unlike = {{6, 0, 0}, {-1, 0, 0}, {0, 6, 0}, {0, NONE, 0}, {0, 0, 2}, {0, 0, -1}, {0, 0, 0, 0, 0, 9}};
        for (int[] triple : unlike) {
            HerOrders z = Desk.houseOf("v0101");
            Desk.lay(z, 0, triple);
            Desk.found(z, "kinds", () -> z.kinds(0, 0), UNLIKE);
            Desk.found(z, "test", () -> z.test(0, 0), UNLIKE);
        }
        shorterAndLongestTriples();
        HerOrders y = new HerOrders();
        Desk.refused(y, "kinds of no house", () -> y.kinds(0, 0), BAD);
        Desk.refused(y, "test of no house", () -> y.test(0, 0), BAD);
    }

    private static void shorterAndLongestTriples() {
        HerOrders x = Desk.houseOf("v0101");
        Desk.lay(x, 0, 0, 0, 1, 9, 9, 9);
        Desk.lay(x, 0, 0, 0, 1);
        Desk.due("kinds, a shorter ROW where a longer one was", x.kinds(0, 0), V + P + S + N + C);
        x.row(0, 39);
        Desk.due("kinds of 13 triples", x.kinds(0, 0), M);
    }

    private static void testBy(HerOrders x, int want, int part, int... triples) {
        Desk.lay(x, 0, triples);
        Desk.due("test", x.test(0, 0), want);
        Desk.due("test, asked()", x.asked(), part);
    }

    private static void test() {
        HerOrders x = Desk.houseOf("v0112");
        testBy(x, 0, 4);
        testBy(x, 0, 2, NONE, 0, 1, 5, 0, 1, 2, 2, 0);
        testBy(x, 10, 1, NONE, 0, 0);
        HerOrders most = Desk.houseOf("v6212");
        testBy(most, 60, 1, 0, 0, 1);
        HerOrders odd = Desk.houseOf("v0212");
        odd.hour();
        testBy(odd, 1, 3);
        testBy(odd, 0, 1, 3, 3, 1, 2, 3, 0);
        Desk.lay(odd, 0, 3, 3, 1, 3, 3, 0);
        odd.at(0, 0);
        Desk.due("test of no KIND", odd.test(0, 0), NONE);
        Desk.due("asked() stays", odd.asked(), 3);
    }

    private static void fourth() {
        HerOrders x = Desk.houseOf("v0119 v0119");
        Desk.lay(x, 0, 0, 0, 0);
        Desk.due("fourth, none needed", x.fourth(0, 5), 0);
        Desk.due("asked()", x.asked(), 0);
        Desk.lay(x, 0, 0, 3, 0, 3);
        Desk.due("fourth, one WORD", x.fourth(0, 2), 1);
        Desk.due("asked()", x.asked(), 8);
        Desk.due("he is gone", x.count(0), 2);
        Desk.due("he is too far off", x.fourth(0, 3), NONE);
        Desk.lay(x, 0, 5, 0, 4, 0, 1);
        Desk.due("fourth, three WORDS", x.fourth(0, 1), 3);
        Desk.due("asked()", x.asked(), 2 + 16 + 32);
        Desk.lay(x, 0, 4, 4);
        Desk.due("he says not two in a row", x.fourth(0, 1), NONE);
        HerOrders z = Desk.houseOf("v0119 m0101 n0141");
        z.walk(1, 5);
        Desk.write(z, 1, "v0119");
        z.house(1);
        Desk.lay(z, 0, 4, 0);
        Desk.due("fourth, where a MAID was, a VOICE begins", z.fourth(0, 1), 1);
        Desk.due("asked()", z.asked(), 16);
        HerOrders y = Desk.houseOf("v0719");
        Desk.lay(y, 0, 2, 1);
        Desk.due("fourth, of like few the least", y.fourth(0, 1), 1);
        Desk.due("asked()", y.asked(), 2);
        Desk.lay(y, 0, 1, 2);
        Desk.due("fourth, the least again", y.fourth(0, 1), 1);
        Desk.due("asked()", y.asked(), 2);
        refusalsOfFourth();
    }

    private static void refusalsOfFourth() {
        HerOrders x = Desk.houseOf("v6319 v6319 v6319 v6319 v6319 v6319");
        Desk.found(x, "fourth of a missing ROW", () -> x.fourth(0, 0), NOTHING);
        Desk.lay(x, 0, 1);
        Desk.due("a seventh", x.fourth(0, 1), NONE);
        Desk.refused(x, "fourth(0, 6)", () -> x.fourth(0, 6), BAD);
        Desk.refused(x, "fourth(0, -1)", () -> x.fourth(0, -1), BAD);
        Desk.refused(x, "fourth(6, 0)", () -> x.fourth(6, 0), BAD);
        Desk.lay(x, 0, 6, 0, 0, 0, 0, 0);
        Desk.found(x, "fourth of 6", () -> x.fourth(0, 0), SIZE);
        Desk.lay(x, 0, 6);
        Desk.found(x, "fourth of no WORD", () -> x.fourth(0, 0), UNLIKE);
        HerOrders y = new HerOrders();
        Desk.refused(y, "fourth of no house", () -> y.fourth(0, 0), STATE);
        Desk.refused(y, "fourth(0, 6) of no house", () -> y.fourth(0, 6), BAD);
    }

    private static void offIs(HerOrders x, int want, int... words) {
        Desk.lay(x, 0, words);
        Desk.due("off", x.off(0), want);
    }

    private static void off() {
        HerOrders x = Desk.houseOf("v6319 v6319");
        offIs(x, 0);
        offIs(x, 8, 0, 1, 2, 3, 4, 5, 0, 1);
        int[] order = {1, 2, 3, 4};
        for (int k = 0; k < 4; k++) x.say(k % 2, order[k]);
        offIs(x, 0, 1, 2, 3, 4);
        offIs(x, 4);
        offIs(x, 1, 1, 2, 4);
        offIs(x, 1, 0, 1, 2, 3, 4);
        offIs(x, 1, 1, 2, 5, 4);
        offIs(x, 2, 2, 3, 4, 5);
        offIs(x, 2, 2, 1, 3, 4);
        offIs(x, 4, 4, 3, 2, 1);
        offIs(x, 4, 1, 1, 2, 2, 3, 3, 4, 4);
        x.row(0, 9);
        x.lay(0, 0, 6);
        Desk.found(x, "off of 9", () -> x.off(0), SIZE);
        Desk.lay(x, 0, 1, 6);
        Desk.found(x, "off of no WORD", () -> x.off(0), UNLIKE);
        Desk.found(x, "off of a missing ROW", () -> x.off(1), NOTHING);
        Desk.refused(x, "off(6)", () -> x.off(6), BAD);
        HerOrders y = new HerOrders();
        Desk.refused(y, "off of no house", () -> y.off(0), STATE);
    }

    private static void struckIs(String text, int one, int two, int three) {
        HerOrders x = Desk.houseOf(text);
        long digest = x.digest();
        Desk.due("struck(0) " + text, x.struck(0), NONE);
        Desk.due("struck(1) " + text, x.struck(1), one);
        Desk.due("struck(2) " + text, x.struck(2), two);
        Desk.due("struck(3) " + text, x.struck(3), three);
        Desk.due("digest()", x.digest(), digest);
    }

    private static void struck() {
        struckIs("v0019", 1, 1, 1);
        struckIs("n6319", 1, 1, 1);
        struckIs("v0119", NONE, 0, 0);
        struckIs("v0119 v0119", NONE, NONE, NONE);
        struckIs("v0111 v0111", NONE, NONE, 1);
        struckIs("v0111 v0111 v0111", NONE, NONE, NONE);
        struckIs("v0111 v0121 v0131", NONE, NONE, NONE);
        struckIs("v0111 v0121 v0151", NONE, 0, 0);
        struckIs("v0112 v0121", NONE, NONE, NONE);
        struckIs("v0111 v0121 v0141", NONE, 0, 0);
        struckIs("v0112 v0111", NONE, NONE, NONE);
        HerOrders x = Desk.houseOf("v0119 v0119");
        for (int k = 0; k < 7; k++) x.say(k % 2, 0);
        Desk.due("struck(1) of 7 WORDS", x.struck(1), NONE);
        Desk.due("struck(2) of 7 WORDS", x.struck(2), 0);
        x.say(1, 0);
        Desk.due("struck(1) of 8 WORDS", x.struck(1), 1);
        Desk.refused(x, "struck(4)", () -> x.struck(4), BAD);
        Desk.refused(x, "struck(-1)", () -> x.struck(-1), BAD);
        HerOrders y = new HerOrders();
        Desk.refused(y, "struck of no house", () -> y.struck(0), STATE);
        Desk.refused(y, "struck(4) of no house", () -> y.struck(4), BAD);
    }
}
