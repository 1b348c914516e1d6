/** A test for each boundary that the document names of who one is, a fourth, how far off, turns (promises 31 to 35). */
public final class EdgesOfKindsTest {
    private static final int BAD = HerOrders.BAD, STATE = HerOrders.STATE, NONE = HerOrders.NONE;
    private static final int MIN = Integer.MIN_VALUE, MAX = Integer.MAX_VALUE;
    private static final int NOTHING = 1, UNLIKE = 3, SIZE = 5;
    private static final int V = 1, P = 2, S = 4, N = 8, M = 16, C = 32, ALL = 63;
    private static final String SIX = "v6319 v6319 v6319 v6319 v6319 v6319";

    public static void main(String[] args) {
        triplesBad();
        triplesMissing();
        triplesSizes();
        triplesUnlike();
        kindsByNothing();
        kindsOfTheFirst();
        kindsBehind();
        kindsByTheHour();
        kindsAside();
        kindsOfNone();
        shorterRows();
        testOfNoKind();
        testOfOneKind();
        testIsTheFirst();
        fourthBad();
        fourthAmongSix();
        fourthNotNeeded();
        fourthOfLikeFew();
        fourthWhere();
        fourthByNone();
        fourthBreath();
        offSizes();
        offCosts();
        struckNumbers();
        struckOfNone();
        struckInOne();
        struckInTwo();
        struckInThree();
        Desk.finish();
    }

    private static void triplesBad() {
        Desk.sentence("kinds, test: BAD");
        HerOrders x = Desk.houseOf("v6319 v6319");
        x.row(0, 0);
        for (int i : new int[] {-1, 2, MIN, MAX}) {
            Desk.refused(x, "kinds(" + i + ", 0)", () -> x.kinds(i, 0), BAD);
            Desk.refused(x, "test(" + i + ", 0)", () -> x.test(i, 0), BAD);
        }
        HerOrders y = Desk.houseOf("v6319 v6319");
        for (int r : new int[] {-1, 6, MIN, MAX}) {
            Desk.refused(y, "kinds(0, " + r + ")", () -> y.kinds(0, r), BAD);
            Desk.refused(y, "test(0, " + r + ")", () -> y.test(0, r), BAD);
        }
        HerOrders none = new HerOrders();
        Desk.refused(none, "kinds of no house", () -> none.kinds(0, 0), BAD);
        Desk.refused(none, "test of no house", () -> none.test(0, 0), BAD);
    }

    private static void bothFound(HerOrders x, String why, int finding) {
        Desk.found(x, "kinds, " + why, () -> x.kinds(0, 0), finding);
        Desk.found(x, "test, " + why, () -> x.test(0, 0), finding);
    }

    private static void triplesMissing() {
        Desk.sentence("kinds, test: NOTHING");
        HerOrders x = Desk.houseOf("v6319");
        bothFound(x, "a missing ROW", NOTHING);
        x.row(0, 3);
        x.tear(0);
        bothFound(x, "a torn ROW", NOTHING);
    }

    private static void triplesSizes() {
        Desk.sentence("SIZE: not by triples (a ROW without places is well), ahead of UNLIKE");
        for (int n = 0; n <= 40; n++) {
            HerOrders x = Desk.houseOf("v6319");
            x.row(0, n);
            if (n % 3 == 0) {
                Desk.due("kinds of " + n, x.kinds(0, 0), n == 0 ? ALL : M);
                Desk.due("test of " + n, x.test(0, 0), 0);
                continue;
            }
            x.lay(0, 0, 6);
            bothFound(x, "a ROW of " + n, SIZE);
        }
    }

    private static void triplesUnlike() {
        Desk.sentence("triples: the WORD said last, NONE for the first of an ORDER, the WORD, 1 .. 0; UNLIKE");
        int[][] no = {{-1, 6, -10, MIN, MAX}, {-1, 6, NONE, MIN, MAX}, {-1, 2, NONE, MIN, MAX}};
        for (int place = 0; place < 3; place++) {
            for (int v : no[place]) {
                HerOrders x = Desk.houseOf("v6319");
                x.row(0, 3);
                x.lay(0, place, v);
                bothFound(x, v + " at " + place, UNLIKE);
                x.row(0, 39);
                x.lay(0, 36 + place, v);
                bothFound(x, v + " at " + place + " of the last", UNLIKE);
            }
        }
        for (int last : new int[] {NONE, 0, 5}) {
            for (int word : new int[] {0, 5}) {
                HerOrders x = Desk.houseOf("v6319");
                Desk.lay(x, 0, last, word, 1);
                Desk.due("a triple as told", x.kinds(0, 0) & V, V);
            }
        }
    }

    private static void kindsBy(HerOrders x, int want, int... triples) {
        Desk.lay(x, 0, triples);
        Desk.due("kinds", x.kinds(0, 0), want);
    }

    private static void kindsByNothing() {
        Desk.sentence("KINDS (bits) that one can be of by these (a ROW without places is well)");
        kindsBy(Desk.houseOf("v0019"), ALL);
        kindsBy(Desk.houseAfter("m0019", 1), ALL);
    }

    private static void kindsOfTheFirst() {
        Desk.sentence("NONE for the first of an ORDER");
        HerOrders x = Desk.houseOf("v0319");
        kindsBy(x, V + P + S + C, NONE, 0, 1);
        kindsBy(x, N + M, NONE, 1, 0);
        kindsBy(x, 0, NONE, 2, 1);
        kindsBy(x, ALL, NONE, 2, 0);
        kindsBy(x, ALL, NONE, 5, 0);
    }

    private static void kindsBehind() {
        Desk.sentence("a PARROT also the one said last, a CAGE also the one behind that (0 behind 5), a MAID odd");
        HerOrders x = Desk.houseOf("v0619");
        kindsBy(x, P + C, 5, 5, 1);
        kindsBy(x, P + C, 0, 0, 1);
        kindsBy(x, C, 5, 0, 1);
        kindsBy(x, C, 4, 5, 1);
        kindsBy(x, 0, 0, 5, 1);
        kindsBy(x, 0, 5, 4, 1);
        kindsBy(x, ALL, 3, 5, 0);
        kindsBy(x, ALL, 3, 1, 1);
        kindsBy(x, M, 3, 2, 0);
        kindsBy(x, V + P + S + N + C, 1, 2, 1);
    }

    private static void kindsByTheHour() {
        Desk.sentence("WORDS one has, the HOUR as they are");
        for (int hour = 0; hour <= 3; hour++) {
            HerOrders x = Desk.houseAfter("v0219", hour);
            kindsBy(x, hour % 2 == 0 ? ALL : V + P + N + M + C, 0, 1, 1);
            kindsBy(x, hour % 2 == 0 ? 0 : S, 0, 1, 0);
        }
    }

    private static void kindsAside() {
        Desk.sentence("BREATH, ROOMS, who spoke aside");
        HerOrders x = Desk.houseOf("v0201 v6359");
        long fresh = x.kinds(0, 0);
        Desk.due("no ROW", fresh, -3);
        kindsBy(x, ALL, 0, 1, 1);
        x.say(0, 1);
        kindsBy(x, ALL, 0, 1, 1);
        kindsBy(x, V + P + S + C, NONE, 1, 1);
        x.end();
        x.say(1, 0);
        kindsBy(x, ALL, 0, 1, 1);
        HerOrders y = Desk.houseWith("v0219 v6319", 1, 1, 1, 1, 1, 1, 1, 1);
        kindsBy(y, ALL, 0, 1, 1);
    }

    private static void kindsOfNone() {
        Desk.sentence("KINDS (bits) that one can be of by these: none of them");
        HerOrders x = Desk.houseOf("v0119");
        kindsBy(x, 0, 0, 0, 1, 0, 0, 0);
        kindsBy(x, C, 2, 2, 1, 2, 3, 1);
        kindsBy(x, P, 2, 2, 1, 2, 3, 0);
        kindsBy(x, 0, 2, 2, 0, 2, 3, 1);
    }

    private static void testBy(HerOrders x, int want, int part, int... triples) {
        Desk.lay(x, 0, triples);
        Desk.due("test", x.test(0, 0), want);
        Desk.due("asked()", x.asked(), part);
    }

    private static void shorterRows() {
        Desk.sentence("A ROW is there with n ints (those behind are none of it)");
        HerOrders x = Desk.houseOf("v0119");
        Desk.lay(x, 0, 0, 0, 1, 9, 9, 9);
        kindsBy(x, V + P + S + N + C, 0, 0, 1);
        Desk.lay(x, 0, 0, 0, 0, 0, 0, 9);
        Desk.found(x, "the second triple", () -> x.kinds(0, 0), UNLIKE);
    }

    private static void testOfNoKind() {
        Desk.sentence("NONE: there is no KIND");
        HerOrders x = Desk.houseOf("v0119");
        Desk.lay(x, 0, 0, 0, 1, 0, 0, 0);
        x.speaker(0, 3);
        Desk.due("test(0, 0)", x.test(0, 0), NONE);
        Desk.due("asked() stays", x.asked(), 9);
        Desk.due("a FINDING it is not", x.finding(), 0);
    }

    private static void testOfOneKind() {
        Desk.sentence("that part by asked() (of one KIND alone)");
        testBy(Desk.houseOf("v0119"), 0, 1, 2, 2, 1, 2, 3, 0);
        testBy(Desk.houseOf("v0119"), 0, 1, 2, 3, 1);
    }

    private static void testIsTheFirst() {
        Desk.sentence("10 times (the WORD said last and 1, 0 for none) and the WORD .. (the first by numbers)");
        testBy(Desk.houseOf("v0019"), 10, 4);
        testBy(Desk.houseOf("v0019"), 11, 1, 2, 2, 1);
        testBy(Desk.houseOf("v6319"), 0, 4);
        testBy(Desk.houseOf("v3219"), 5, 4);
        testBy(Desk.houseOf("v3119"), 10, 1, NONE, 0, 0);
        testBy(Desk.houseOf("v6219"), 60, 1, 0, 0, 1);
        testBy(Desk.houseOf("v0219"), 22, 1, 2, 2, 1);
        testBy(Desk.houseAfter("v6319", 1), 0, 3);
    }

    private static void fourthBad() {
        Desk.sentence("fourth: in a ROOM (0 .. 5). BAD; STATE; NOTHING; SIZE; UNLIKE");
        HerOrders x = Desk.houseOf("v6319");
        x.row(0, 1);
        for (int room : new int[] {-1, 6, MIN, MAX}) {
            Desk.refused(x, "fourth(0, " + room + ")", () -> x.fourth(0, room), BAD);
        }
        for (int room = 0; room <= 5; room++) Desk.due("fourth(0, " + room + ")", x.fourth(0, room), 0);
        HerOrders none = new HerOrders();
        Desk.refused(none, "BAD is ahead of STATE", () -> none.fourth(0, 6), BAD);
        Desk.refused(none, "STATE is ahead of NOTHING", () -> none.fourth(0, 0), STATE);
        HerOrders y = Desk.houseOf(SIX);
        Desk.found(y, "NOTHING is ahead of NONE", () -> y.fourth(0, 0), NOTHING);
        y.row(0, 6);
        Desk.found(y, "SIZE is ahead of NONE", () -> y.fourth(0, 0), SIZE);
        Desk.lay(y, 0, 6);
        Desk.found(y, "UNLIKE is ahead of NONE", () -> y.fourth(0, 0), UNLIKE);
    }

    private static void fourthAmongSix() {
        Desk.sentence("NONE: by none (or there are 6 SPEAKERS)");
        HerOrders x = Desk.houseOf("v0119 v0119 v0119 v0119 v0119 v0119");
        Desk.lay(x, 0, 5);
        x.speaker(0, 3);
        Desk.due("fourth of a WORD that none has", x.fourth(0, 1), NONE);
        Desk.lay(x, 0, 0);
        x.speaker(0, 3);
        Desk.due("fourth of a WORD that all have", x.fourth(0, 1), NONE);
        Desk.due("asked() stays", x.asked(), 9);
        HerOrders y = Desk.houseOf("v0119 v0119 v0119 v0119 v0119");
        Desk.lay(y, 0, 5);
        Desk.due("fourth among five", y.fourth(0, 1), 1);
        Desk.due("asked()", y.asked(), 32);
        Desk.due("count(0)", y.count(0), 5);
    }

    private static void fourthNotNeeded() {
        Desk.sentence("How few WORDS .. has to have; which by asked()");
        HerOrders x = Desk.houseOf("v0119 v0119");
        Desk.lay(x, 0, 0, 0);
        Desk.due("fourth, none", x.fourth(0, 1), 0);
        Desk.due("asked()", x.asked(), 0);
        x.row(0, 0);
        x.speaker(0, 3);
        Desk.due("fourth of no WORDS", x.fourth(0, 1), 0);
        Desk.due("asked()", x.asked(), 0);
    }

    private static void fourthOfLikeFew() {
        Desk.sentence("which by asked() (bits; of like few the least number)");
        HerOrders x = Desk.houseOf("v6319");
        Desk.lay(x, 0, 5, 2);
        Desk.due("fourth of 5 2", x.fourth(0, 1), 1);
        Desk.due("asked()", x.asked(), 4);
        Desk.lay(x, 0, 2, 5);
        Desk.due("fourth of 2 5", x.fourth(0, 1), 1);
        Desk.due("asked()", x.asked(), 4);
        Desk.lay(x, 0, 5, 1, 5, 0, 5);
        Desk.due("fourth, 5 alone", x.fourth(0, 1), 1);
        Desk.due("asked()", x.asked(), 32);
        Desk.lay(x, 0, 5, 1, 5, 0);
        Desk.due("fourth, fewer ahead of less", x.fourth(0, 1), 1);
        Desk.due("asked()", x.asked(), 32);
        HerOrders y = Desk.houseOf("v3019");
        Desk.lay(y, 0, 5, 1, 0, 1, 5);
        Desk.due("fourth, two", y.fourth(0, 1), 2);
        Desk.due("asked()", y.asked(), 33);
        Desk.lay(y, 0, 5, 1, 0, 1, 4);
        Desk.due("fourth, no WAY, a second has not 0 5", y.fourth(0, 1), 3);
        Desk.due("asked()", y.asked(), 49);
    }

    private static void fourthWhere() {
        Desk.sentence("a VOICE more in a ROOM (0 .. 5)");
        HerOrders x = Desk.houseWith("v0119 v0119", 0);
        Desk.lay(x, 0, 5, 0);
        int[] due = {1, 1, 1, NONE, NONE, NONE};
        for (int room = 0; room <= 5; room++) Desk.due("fourth(0, " + room + ")", x.fourth(0, room), due[room]);
        x.end();
        x.walk(0, 5);
        int[] then = {1, 1, 1, NONE, 1, 1};
        for (int room = 0; room <= 5; room++) Desk.due("fourth(0, " + room + ") then", x.fourth(0, room), then[room]);
        x.walk(1, 5);
        Desk.lay(x, 0, 5);
        for (int room = 0; room <= 5; room++) Desk.due("the first, anywhere", x.fourth(0, room), 1);
        HerOrders y = Desk.houseAfter("s6319 m6319", 1);
        Desk.lay(y, 0, 2, 1);
        Desk.due("a VOICE begins in HOUR 1", y.fourth(0, 1), 1);
        Desk.due("asked()", y.asked(), 4);
        Desk.write(y, 1, "v0119");
        Desk.due("a house of one", y.house(1), 1);
        Desk.lay(y, 0, 2, 0);
        Desk.due("a VOICE, where a MAID was", y.fourth(0, 1), 1);
        Desk.due("asked()", y.asked(), 4);
    }

    private static void fourthByNone() {
        Desk.sentence("NONE: by none");
        HerOrders x = Desk.houseOf("v0119");
        Desk.lay(x, 0, 5, 5);
        x.speaker(0, 3);
        Desk.due("two one behind the other", x.fourth(0, 1), NONE);
        Desk.due("asked() stays", x.asked(), 9);
        HerOrders y = Desk.houseWith("v6319 v6319", 0, 0, 0, 0, 0, 0, 0);
        Desk.lay(y, 0, 0, 0);
        Desk.due("a ninth WORD", y.fourth(0, 1), NONE);
        Desk.lay(y, 0, 0);
        Desk.due("the eighth", y.fourth(0, 1), 0);
        y.say(1, 0);
        Desk.due("a ninth", y.fourth(0, 1), NONE);
        y.row(0, 0);
        Desk.due("none behind eight", y.fourth(0, 1), 0);
    }

    private static void fourthBreath() {
        Desk.sentence("a VOICE more .. of BREATH 9");
        HerOrders x = Desk.houseOf("v0113");
        Desk.lay(x, 0, 1, 0, 2, 0, 3);
        Desk.due("three by him", x.fourth(0, 1), 3);
        Desk.due("asked()", x.asked(), 14);
        HerOrders y = Desk.houseOf("v0112");
        Desk.lay(y, 0, 1, 0, 1, 0, 1);
        Desk.due("three times one WORD by him", y.fourth(0, 1), 1);
        Desk.due("asked()", y.asked(), 2);
        Desk.lay(y, 0, 0, 1, 0, 1, 0);
        Desk.due("the other one has BREATH 2", y.fourth(0, 1), NONE);
    }

    private static void offSizes() {
        Desk.sentence("off: BAD; STATE; NOTHING; SIZE: more than 8; UNLIKE");
        for (int n = 0; n <= 40; n++) {
            HerOrders x = Desk.houseOf("v6319");
            x.row(0, n);
            if (n <= 8) {
                Desk.due("off of " + n, x.off(0), n);
                continue;
            }
            x.lay(0, 0, 6);
            Desk.found(x, "off of " + n + ", ahead of UNLIKE", () -> x.off(0), SIZE);
        }
        HerOrders y = Desk.houseOf("v6319");
        Desk.lay(y, 0, 0, 0, 0, 0, 0, 0, 0, 6);
        Desk.found(y, "off of 8, the last no WORD", () -> y.off(0), UNLIKE);
    }

    private static void offIs(HerOrders x, int want, int... words) {
        Desk.lay(x, 0, words);
        Desk.due("off", x.off(0), want);
    }

    private static void offCosts() {
        Desk.sentence("How many WORDS at least have to be left out of, put into, or changed");
        HerOrders x = Desk.houseWith("v6319 v6319", 1, 2, 3, 4, 1, 2, 3, 4);
        offIs(x, 8);
        offIs(x, 0, 1, 2, 3, 4, 1, 2, 3, 4);
        offIs(x, 8, 0, 0, 0, 0, 0, 0, 0, 0);
        offIs(x, 2, 2, 3, 4, 1, 2, 3, 4, 1);
        offIs(x, 1, 2, 3, 4, 1, 2, 3, 4);
        offIs(x, 1, 1, 2, 3, 4, 1, 2, 3, 0);
        offIs(x, 7, 4);
        offIs(x, 7, 1);
        offIs(x, 8, 5);
        offIs(x, 4, 1, 2, 3, 4);
        x.end();
        offIs(x, 0);
        offIs(x, 2, 1, 2);
    }

    private static void struckNumbers() {
        Desk.sentence("By n (0 .. 3) turns. BAD; STATE: no SPEAKERS");
        HerOrders x = Desk.houseOf("v6319");
        for (int n : new int[] {-1, 4, MIN, MAX}) Desk.refused(x, "struck(" + n + ")", () -> x.struck(n), BAD);
        HerOrders none = new HerOrders();
        for (int n = 0; n <= 3; n++) {
            int turns = n;
            Desk.refused(none, "struck(" + n + ") of no house", () -> none.struck(turns), STATE);
        }
        Desk.refused(none, "struck(4) of no house", () -> none.struck(4), BAD);
    }

    private static void struckIs(HerOrders x, int one, int two, int three) {
        Desk.due("struck(0)", x.struck(0), NONE);
        Desk.due("struck(1)", x.struck(1), one);
        Desk.due("struck(2)", x.struck(2), two);
        Desk.due("struck(3)", x.struck(3), three);
    }

    private static void struckOfNone() {
        Desk.sentence("NONE: neither (n 0: always)");
        struckIs(Desk.houseOf("v0019"), 1, 1, 1);
        struckIs(Desk.houseOf(SIX), NONE, NONE, NONE);
    }

    private static void struckInOne() {
        Desk.sentence("who can't, has lost; 1 the one whose turn it is now surely loses within these");
        HerOrders x = Desk.houseWith("v6319 v6319", 0, 0, 0, 0, 0, 0, 0, 0);
        struckIs(x, 1, 1, 1);
        struckIs(Desk.houseOf("n6319 m6319"), 1, 1, 1);
        struckIs(Desk.houseAfter("s6319 s6319", 1), 1, 1, 1);
        struckIs(Desk.houseWith("v6319", 0), 1, 1, 1);
        struckIs(Desk.houseOf("n6319 m6319 v0019 p0019 c0019 n0119"), 1, 1, 1);
    }

    private static void struckInTwo() {
        Desk.sentence("0 surely wins");
        struckIs(Desk.houseOf("v6319"), NONE, 0, 0);
        HerOrders x = Desk.houseWith("v6319 v6319", 0, 0, 0, 0, 0, 0, 0);
        struckIs(x, NONE, 0, 0);
        struckIs(Desk.houseOf("v6319 v6319 v6349"), NONE, 0, 0);
    }

    private static void struckInThree() {
        Desk.sentence("both playing best");
        HerOrders x = Desk.houseWith("v6319 v6319", 0, 0, 0, 0, 0, 0);
        struckIs(x, NONE, NONE, 1);
        x.undo(5);
        struckIs(x, NONE, NONE, NONE);
        struckIs(Desk.houseOf("v0111 v0111"), NONE, NONE, 1);
        struckIs(Desk.houseOf("v0111 v0112"), NONE, NONE, NONE);
    }
}
