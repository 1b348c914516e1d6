import java.util.function.IntSupplier;

/** A test for each boundary that the document names of orders and who said what (promises 24 to 30). */
public final class EdgesOfOrdersTest {
    private static final int BAD = HerOrders.BAD, STATE = HerOrders.STATE, NONE = HerOrders.NONE;
    private static final int MIN = Integer.MIN_VALUE, MAX = Integer.MAX_VALUE;
    private static final int NOTHING = 1, UNLIKE = 3, NOUGHT = 4, SIZE = 5;
    private static final String SIX = "v6319 v6319 v6319 v6319 v6319 v6319";

    public static void main(String[] args) {
        rowsOfWordsBad();
        rowsOfWordsWithoutHouse();
        rowsOfWordsMissing();
        rowsOfWordsTooLong();
        rowsOfWordsUnlike();
        waysOfNone();
        waysByNobody();
        waysMost();
        waysToTheEighthWord();
        waysWithoutHoursAndWalks();
        waysChangeNothing();
        fewWhichRows();
        fewIsTheFirst();
        fewByNobody();
        farFromNoneToAll();
        farToTheEighthWord();
        dumbOfOneTwoThree();
        dumbOfNone();
        dumbRefused();
        longestFromNoneToFour();
        longestIsTheFirst();
        longestRefused();
        pairsRefused();
        pairsUnlike();
        heardNothing();
        heardByNobody();
        heardMost();
        sureOfNothing();
        sureOfNobody();
        sureSets();
        Desk.finish();
    }

    private static IntSupplier[] callsOfWords(HerOrders x, int r) {
        return new IntSupplier[] {() -> x.ways(r), () -> x.few(r, 5), () -> x.far(r), () -> x.fourth(r, 0),
            () -> x.off(r), () -> x.odds(r, 0), () -> x.mid(r, 0)};
    }

    private static IntSupplier[] callsOfPairs(HerOrders x, int r) {
        return new IntSupplier[] {() -> x.heard(r), () -> x.sure(r)};
    }

    private static void allRefused(HerOrders x, String why, IntSupplier[] calls, int want) {
        for (int k = 0; k < calls.length; k++) Desk.refused(x, why + ", call " + k, calls[k], want);
    }

    private static void allFound(HerOrders x, String why, IntSupplier[] calls, int finding) {
        for (int k = 0; k < calls.length; k++) Desk.found(x, why + ", call " + k, calls[k], finding);
    }

    private static void rowsOfWordsBad() {
        Desk.sentence("BAD (a number that is none), ahead of STATE");
        for (int r : new int[] {-1, 6, MIN, MAX}) {
            HerOrders x = Desk.houseOf("v6319");
            allRefused(x, "row " + r, callsOfWords(x, r), BAD);
            HerOrders none = new HerOrders();
            allRefused(none, "row " + r + ", no house", callsOfWords(none, r), BAD);
        }
    }

    private static void rowsOfWordsWithoutHouse() {
        Desk.sentence("behind BAD, STATE: no SPEAKERS");
        HerOrders x = new HerOrders();
        allRefused(x, "no ROW", callsOfWords(x, 0), STATE);
        HerOrders y = new HerOrders();
        y.row(0, 0);
        allRefused(y, "a ROW of none", callsOfWords(y, 0), STATE);
        HerOrders z = new HerOrders();
        Desk.lay(z, 5, 9, 9, 9, 9, 9, 9, 9, 9, 9);
        allRefused(z, "a ROW too long", callsOfWords(z, 5), STATE);
    }

    private static void rowsOfWordsMissing() {
        Desk.sentence("NOTHING");
        HerOrders x = Desk.houseOf("v6319");
        allFound(x, "row 0", callsOfWords(x, 0), NOTHING);
        HerOrders y = Desk.houseOf("v6319");
        Desk.lay(y, 5, 1);
        y.tear(5);
        allFound(y, "row 5, torn", callsOfWords(y, 5), NOTHING);
    }

    private static void rowsOfWordsTooLong() {
        Desk.sentence("a ROW of 0 to 5 WORDS: SIZE, ahead of UNLIKE");
        for (int n : new int[] {6, 7, 8, 9, 40}) {
            HerOrders x = Desk.houseOf("v6319 v6319");
            x.row(0, n);
            x.lay(0, 0, n % 2 == 0 ? 6 : 0);
            Desk.found(x, "ways of " + n, () -> x.ways(0), SIZE);
            Desk.found(x, "few of " + n, () -> x.few(0, 1), SIZE);
            Desk.found(x, "far of " + n, () -> x.far(0), SIZE);
            Desk.found(x, "fourth of " + n, () -> x.fourth(0, 0), SIZE);
            Desk.found(x, "odds of " + n, () -> x.odds(0, 0), SIZE);
            Desk.found(x, "mid of " + n, () -> x.mid(0, 0), SIZE);
        }
        HerOrders y = Desk.houseOf("v6319 v6319");
        for (int n = 0; n <= 5; n++) {
            y.row(0, n);
            Desk.shared(y, "ways of " + n, y.ways(0), n == 0 ? 1 : 2, 1);
            Desk.due("few of " + n, y.few(0, 1), Math.min(n, 2));
            Desk.due("far of " + n, y.far(0), n);
            Desk.due("fourth of " + n, y.fourth(0, 0), 0);
            Desk.shared(y, "odds of " + n, y.odds(0, 0), 1, 1);
            Desk.shared(y, "mid of " + n, y.mid(0, 0), n, 1);
        }
    }

    private static void rowsOfWordsUnlike() {
        Desk.sentence("UNLIKE: no WORD");
        for (int word : new int[] {-1, 6, NONE, MIN, MAX}) {
            HerOrders x = Desk.houseOf("v6319 v6319");
            Desk.lay(x, 0, word);
            allFound(x, "the only " + word, callsOfWords(x, 0), UNLIKE);
            HerOrders y = Desk.houseOf("v6319 v6319");
            Desk.lay(y, 0, 0, 1, 2, 3, word);
            allFound(y, "the last " + word, callsOfWords(y, 0), UNLIKE);
        }
        HerOrders x = Desk.houseOf("v6319 v6319");
        Desk.lay(x, 0, 0, 5, 0, 5, 0);
        Desk.shared(x, "ways of 0 and 5", x.ways(0), 2, 1);
        Desk.lay(x, 0, 0, 9);
        Desk.lay(x, 0, 0);
        Desk.shared(x, "a shorter ROW where a longer one was", x.ways(0), 2, 1);
    }

    private static void waysOfNone() {
        Desk.sentence("a ROW of 0 .. WORDS");
        HerOrders x = Desk.houseOf("v0019");
        x.row(0, 0);
        Desk.shared(x, "ways(0)", x.ways(0), 1, 1);
        Desk.due("asked()", x.asked(), 0);
    }

    private static void waysByNobody() {
        Desk.sentence("SPEAKERS in all of these by asked() (bits; 0: there are none)");
        HerOrders x = Desk.houseOf("v0119 v0319");
        Desk.lay(x, 0, 2);
        Desk.shared(x, "ways of a WORD that none has", x.ways(0), 0, 1);
        Desk.due("asked()", x.asked(), 0);
        Desk.lay(x, 0, 0, 1, 0, 1, 2);
        Desk.shared(x, "ways, but for the last", x.ways(0), 0, 1);
        Desk.due("asked()", x.asked(), 0);
        Desk.lay(x, 0, 1);
        Desk.shared(x, "ways by the second", x.ways(0), 1, 1);
        Desk.due("asked()", x.asked(), 2);
        Desk.lay(x, 0, 0, 1);
        Desk.shared(x, "ways by both", x.ways(0), 1, 1);
        Desk.due("asked()", x.asked(), 3);
        Desk.lay(x, 0, 0);
        Desk.shared(x, "ways by either", x.ways(0), 2, 1);
        Desk.due("asked()", x.asked(), 0);
    }

    private static void waysMost() {
        Desk.sentence("How many WAYS of a ROW there are, told by upper()");
        HerOrders x = Desk.houseOf(SIX);
        int due = 6;
        for (int n = 1; n <= 5; n++) {
            x.row(0, n);
            Desk.shared(x, "ways of " + n + " by six", x.ways(0), due, 1);
            Desk.due("asked()", x.asked(), 0);
            Desk.due("far", x.far(0), n);
            Desk.due("asked() by far", x.asked(), due);
            due *= 5;
        }
    }

    private static void waysToTheEighthWord() {
        Desk.sentence("behind what is said of the ORDER now; an ORDER has 8 WORDS at most");
        HerOrders x = Desk.houseWith("v6319 v6319", 0, 0, 0);
        x.row(0, 5);
        Desk.shared(x, "ways to the 8th", x.ways(0), 1, 1);
        x.say(1, 0);
        Desk.shared(x, "ways beyond the 8th", x.ways(0), 0, 1);
        x.row(0, 4);
        Desk.shared(x, "ways of one less", x.ways(0), 1, 1);
        for (int k = 0; k < 4; k++) x.say(k % 2, 0);
        x.row(0, 1);
        Desk.shared(x, "ways behind 8", x.ways(0), 0, 1);
        x.row(0, 0);
        Desk.shared(x, "ways of none behind 8", x.ways(0), 1, 1);
        x.end();
        x.row(0, 1);
        Desk.shared(x, "ways of the next ORDER", x.ways(0), 2, 1);
    }

    private static void waysWithoutHoursAndWalks() {
        Desk.sentence("no HOUR passing, nobody walking");
        HerOrders x = Desk.houseOf("v0111 v0111");
        Desk.lay(x, 0, 0, 0);
        Desk.shared(x, "all BREATH", x.ways(0), 2, 1);
        Desk.lay(x, 0, 0, 0, 0);
        Desk.shared(x, "one more", x.ways(0), 0, 1);
        HerOrders y = Desk.houseOf("v0119 v0239");
        Desk.lay(y, 0, 0, 1);
        Desk.shared(y, "two ROOMS on", y.ways(0), 0, 1);
        y.walk(1, 2);
        Desk.shared(y, "beside", y.ways(0), 1, 1);
        HerOrders z = Desk.houseAfter("v0119 s0219", 1);
        Desk.lay(z, 0, 0, 1);
        Desk.shared(z, "a STAIR in HOUR 1", z.ways(0), 0, 1);
    }

    private static void waysChangeNothing() {
        Desk.sentence("each of whom CAN say it then");
        HerOrders x = Desk.houseWith("v6312 c1213 s6319 n6329", 2, 3);
        Desk.lay(x, 0, 3, 4, 1);
        Desk.lay(x, 1, 3, 1, 4, 2);
        long digest = x.digest();
        x.ways(0);
        x.far(0);
        x.dumb();
        x.heard(1);
        x.sure(1);
        x.fourth(0, 5);
        x.off(0);
        x.struck(3);
        x.odds(0, 5);
        x.mid(0, 5);
        Desk.due("digest()", x.digest(), digest);
    }

    private static void fewWhichRows() {
        Desk.sentence("the first such WAY comes to another ROW (perhaps the same; anew)");
        HerOrders x = Desk.houseOf("v0119 v0219");
        Desk.lay(x, 0, 0, 1, 0);
        Desk.due("few to a missing one", x.few(0, 5), 2);
        Desk.rowIs(x, "to a missing one", 5, 0, 1, 0);
        Desk.lay(x, 5, 7, 7, 7, 7, 7, 7, 7, 7);
        Desk.due("few to a longer one", x.few(0, 5), 2);
        Desk.rowIs(x, "to a longer one", 5, 0, 1, 0);
        Desk.due("few to the same", x.few(0, 0), 2);
        Desk.rowIs(x, "to the same", 0, 0, 1, 0);
        x.row(1, 0);
        Desk.due("few of no WORDS", x.few(1, 5), 0);
        Desk.rowIs(x, "of no WORDS", 5);
        Desk.due("count(8)", x.count(8), 3);
        for (int to : new int[] {-1, 6, MIN, MAX}) Desk.refused(x, "few(0, " + to + ")", () -> x.few(0, to), BAD);
        HerOrders none = new HerOrders();
        Desk.refused(none, "BAD is ahead of STATE", () -> none.few(0, 6), BAD);
    }

    private static void fewIsTheFirst() {
        Desk.sentence("The fewest SPEAKERS who say a ROW between them by a WAY; WAYS go by the first SPEAKERS, ..");
        HerOrders x = Desk.houseOf("v0119 v0319 v0319");
        Desk.lay(x, 0, 0, 1);
        Desk.due("few, one of 4 WAYS", x.few(0, 1), 2);
        Desk.rowIs(x, "the first", 1, 0, 1);
        Desk.lay(x, 0, 0, 1, 0, 1);
        Desk.due("few, not the first of all", x.few(0, 1), 2);
        Desk.rowIs(x, "0 with 1", 1, 0, 1, 0, 1);
        Desk.lay(x, 0, 0, 1, 1);
        Desk.due("few, 1 with 2 ahead of three", x.few(0, 1), 2);
        Desk.rowIs(x, "2 1 2", 1, 1, 2, 1);
        HerOrders y = Desk.houseOf(SIX);
        y.row(0, 1);
        Desk.due("few, one", y.few(0, 0), 1);
        Desk.rowIs(y, "one", 0, 0);
        HerOrders z = Desk.houseOf("v0111 v0211 v0411 v0811 v1611");
        Desk.lay(z, 0, 4, 3, 2, 1, 0);
        Desk.due("few, all five", z.few(0, 0), 5);
        Desk.rowIs(z, "all five", 0, 4, 3, 2, 1, 0);
    }

    private static void fewByNobody() {
        Desk.sentence("NONE: there is no WAY");
        HerOrders x = Desk.houseOf("v0119");
        Desk.lay(x, 0, 0, 0);
        Desk.lay(x, 1, 7, 8);
        long digest = x.digest();
        Desk.due("few(0, 1)", x.few(0, 1), NONE);
        Desk.due("few(0, 2)", x.few(0, 2), NONE);
        Desk.due("digest()", x.digest(), digest);
        Desk.due("a FINDING it is not", x.finding(), 0);
    }

    private static void farFromNoneToAll() {
        Desk.sentence("How many WORDS of a ROW from its first on can be said; in how many WAYS these by asked()");
        HerOrders x = Desk.houseOf("v0119 v0119 v0119");
        int[] ways = {1, 3, 6, 12, 24, 48};
        for (int n = 0; n <= 5; n++) {
            x.row(0, 5);
            if (n < 5) x.lay(0, n, 5);
            Desk.due("far to " + n, x.far(0), n);
            Desk.due("asked()", x.asked(), ways[n]);
        }
        x.row(0, 0);
        Desk.due("far of none", x.far(0), 0);
        Desk.due("asked()", x.asked(), 1);
    }

    private static void farToTheEighthWord() {
        Desk.sentence("An ORDER has 8 WORDS at most");
        HerOrders x = Desk.houseWith("v6319 v6319", 0, 0, 0, 0, 0, 0, 0);
        x.row(0, 5);
        Desk.due("far behind 7", x.far(0), 1);
        x.say(1, 0);
        Desk.due("far behind 8", x.far(0), 0);
        Desk.due("asked()", x.asked(), 1);
    }

    private static void dumbIs(HerOrders x, int want, int asked) {
        Desk.due("dumb()", x.dumb(), want);
        Desk.due("asked()", x.asked(), asked);
    }

    private static void dumbOfOneTwoThree() {
        Desk.sentence("The least n (1 .. 3) such that a row of n WORDS has no WAY; the first such row by asked()");
        dumbIs(Desk.houseOf("v0019"), 1, 0);
        dumbIs(Desk.houseOf("v3119 v3119"), 1, 5);
        dumbIs(Desk.houseOf("v6319"), 2, 0);
        dumbIs(Desk.houseOf("v6319 v3119"), 2, 35);
        dumbIs(Desk.houseOf("v6319 v6219"), 2, 0);
        dumbIs(Desk.houseOf("v6319 v5919 v5919"), 2, 14);
        dumbIs(Desk.houseOf("v6311 v6311"), 3, 0);
        dumbIs(Desk.houseOf("v6311 v6311 v3111"), 3, 5 * 36 + 5 * 6 + 5);
        dumbIs(Desk.houseOf("v3119 v3119 v3119 v3119 v3119 v3119"), 1, 5);
        HerOrders x = Desk.houseWith("v6319 v6319", 0, 0, 0, 0, 0);
        dumbIs(x, HerOrders.NONE, 0);
        x.say(1, 0);
        dumbIs(x, 3, 0);
        x.say(0, 0);
        dumbIs(x, 2, 0);
        x.say(1, 0);
        dumbIs(x, 1, 0);
    }

    private static void dumbOfNone() {
        Desk.sentence("NONE: there is none up to 3");
        HerOrders x = Desk.houseOf("v6312 v6312");
        x.speaker(0, 1);
        dumbIs(x, NONE, 63);
    }

    private static void dumbRefused() {
        Desk.sentence("dumb: STATE: no SPEAKERS");
        HerOrders x = new HerOrders();
        Desk.refused(x, "dumb()", x::dumb, STATE);
    }

    private static void longestIs(HerOrders x, int... row) {
        Desk.lay(x, 5, 9, 9, 9, 9, 9, 9);
        Desk.due("longest(5)", x.longest(5), row.length);
        Desk.rowIs(x, "longest(5)", 5, row);
    }

    private static void longestFromNoneToFour() {
        Desk.sentence("The most WORDS (4 at most) of any row that has a WAY; comes to a ROW (anew)");
        longestIs(Desk.houseOf("v0019"));
        longestIs(Desk.houseOf("n6319 m6319"));
        longestIs(Desk.houseOf("v3219"), 5);
        longestIs(Desk.houseOf("v3219 v6319"), 0, 5, 0, 5);
        longestIs(Desk.houseOf("v3211 v6311"), 0, 5);
        longestIs(Desk.houseOf("v3211 v6312"), 0, 5, 0);
        longestIs(Desk.houseOf(SIX), 0, 0, 0, 0);
        longestIs(Desk.houseOf("v0101 v0201 v0421 v0821 v1641 v3241"), 0, 1);
        HerOrders x = Desk.houseWith("v6319 v6319", 0, 0, 0, 0);
        longestIs(x, 0, 0, 0, 0);
        for (int n = 3; n >= 0; n--) {
            x.say((n + 1) % 2, 0);
            longestIs(x, new int[n]);
        }
        x.speaker(0, 1);
        x.longest(5);
        Desk.due("asked() is not told", x.asked(), 63);
    }

    private static void longestIsTheFirst() {
        Desk.sentence("the first such row");
        longestIs(Desk.houseOf("v0319 v3219 v1659"), 0, 5, 0, 5);
        longestIs(Desk.houseOf("v0619 n0019"), 1);
        longestIs(Desk.houseOf("v0619 v5659 n1611"), 1, 4, 1);
        longestIs(Desk.houseOf("v0111 v2231"), 0);
        longestIs(Desk.houseOf("v0111 v2231 v0831"), 1, 3);
        longestIs(Desk.houseOf("v0411 p0012"), 2, 2);
        longestIs(Desk.houseOf("v0411 c0011 v0211"), 1, 1, 2);
    }

    private static void longestRefused() {
        Desk.sentence("longest: BAD; STATE: no SPEAKERS");
        HerOrders none = new HerOrders();
        Desk.refused(none, "longest(0)", () -> none.longest(0), STATE);
        Desk.refused(none, "longest(6)", () -> none.longest(6), BAD);
        HerOrders x = Desk.houseOf("v6319");
        for (int r : new int[] {-1, 6, MIN, MAX}) Desk.refused(x, "longest(" + r + ")", () -> x.longest(r), BAD);
        Desk.due("longest to a missing ROW", x.longest(3), 1);
        Desk.due("count(8)", x.count(8), 1);
    }

    private static void pairsRefused() {
        Desk.sentence("BAD; STATE; NOTHING; SIZE: not by pairs (a ROW without places is well), too many");
        for (int r : new int[] {-1, 6, MIN, MAX}) {
            HerOrders x = Desk.houseOf("v6319");
            allRefused(x, "row " + r, callsOfPairs(x, r), BAD);
            HerOrders none = new HerOrders();
            allRefused(none, "row " + r + ", no house", callsOfPairs(none, r), BAD);
        }
        HerOrders none = new HerOrders();
        allRefused(none, "no ROW", callsOfPairs(none, 0), STATE);
        HerOrders x = Desk.houseOf("v6319");
        allFound(x, "no ROW", callsOfPairs(x, 0), NOTHING);
        for (int n : new int[] {1, 3, 5, 7, 9, 11, 12, 39, 40}) {
            HerOrders y = Desk.houseOf("v6319");
            y.row(0, n);
            y.lay(0, 0, 6);
            allFound(y, "a ROW of " + n + ", ahead of UNLIKE", callsOfPairs(y, 0), SIZE);
        }
        for (int n = 0; n <= 10; n += 2) {
            HerOrders y = Desk.houseOf("v6309 v6309");
            y.row(0, n);
            Desk.shared(y, "heard of " + n, y.heard(0), n == 0 ? 1 : 2, 1);
        }
    }

    private static void pairsUnlike() {
        Desk.sentence("UNLIKE: no WORD, no ROOM (ahead of NOUGHT)");
        for (int v : new int[] {-1, 6, NONE, MIN, MAX}) {
            HerOrders x = Desk.houseOf("v0119");
            Desk.lay(x, 0, v, 0);
            allFound(x, "the WORD " + v, callsOfPairs(x, 0), UNLIKE);
            Desk.lay(x, 1, 0, v);
            allFound(x, "the ROOM " + v, callsOfPairs(x, 1), UNLIKE);
            HerOrders y = Desk.houseOf("v0119");
            Desk.lay(y, 0, 0, 0, 0, 0, 0, 0, 0, 0, v, 0);
            allFound(y, "the last WORD " + v, callsOfPairs(y, 0), UNLIKE);
            Desk.lay(y, 1, 0, 0, 0, 0, 0, 0, 0, 0, 0, v);
            allFound(y, "the last ROOM " + v, callsOfPairs(y, 1), UNLIKE);
        }
        HerOrders x = Desk.houseOf("v6359 v6309");
        Desk.lay(x, 0, 5, 5);
        Desk.shared(x, "5 in 5", x.heard(0), 1, 1);
        Desk.lay(x, 0, 0, 0);
        Desk.shared(x, "0 in 0", x.heard(0), 1, 1);
        Desk.due("asked()", x.asked(), 1);
        Desk.lay(x, 0, 0, 0, 9, 9);
        Desk.lay(x, 0, 0, 0);
        Desk.shared(x, "a shorter ROW where a longer one was", x.heard(0), 1, 1);
    }

    private static void heardNothing() {
        Desk.sentence("a ROW without places is well; the first SPEAKER .. by asked() (NONE)");
        HerOrders x = Desk.houseOf("v0119");
        x.row(0, 0);
        Desk.shared(x, "heard(0)", x.heard(0), 1, 1);
        Desk.due("asked()", x.asked(), NONE);
    }

    private static void heardByNobody() {
        Desk.sentence("the first SPEAKER of the first such WAY by asked() (NONE)");
        HerOrders x = Desk.houseOf("v0119 v0119 v0119");
        Desk.lay(x, 0, 0, 2);
        Desk.shared(x, "heard where nobody is", x.heard(0), 0, 1);
        Desk.due("asked()", x.asked(), NONE);
        Desk.lay(x, 0, 0, 1, 0, 2);
        Desk.shared(x, "heard where nobody goes on", x.heard(0), 0, 1);
        Desk.due("asked()", x.asked(), NONE);
        x.walk(0, 2);
        Desk.shared(x, "heard where one is now", x.heard(0), 2, 1);
        Desk.due("asked()", x.asked(), 1);
        x.say(1, 0);
        Desk.shared(x, "heard behind what is said now", x.heard(0), 1, 1);
        Desk.due("asked()", x.asked(), 2);
    }

    private static void heardMost() {
        Desk.sentence("How many WAYS there are by which each WORD is said in that ROOM, told by upper()");
        HerOrders x = Desk.houseOf("v6309 v6309 v6309 v6309 v6309 v6309");
        x.row(0, 10);
        Desk.shared(x, "heard of five", x.heard(0), 3750, 1);
        Desk.due("asked()", x.asked(), 0);
        Desk.due("sure of five", x.sure(0), 0);
        Desk.due("asked()", x.asked(), 0);
    }

    private static void sureOfNothing() {
        Desk.sentence("(a ROW without places is well): SPEAKERS in all such WAYS; those in none by asked()");
        HerOrders x = Desk.houseOf(SIX);
        x.row(0, 0);
        Desk.due("sure(0)", x.sure(0), 0);
        Desk.due("asked()", x.asked(), 63);
    }

    private static void sureOfNobody() {
        Desk.sentence("NOUGHT: there is none");
        HerOrders x = Desk.houseOf("v0119 v0119");
        Desk.lay(x, 0, 0, 0);
        Desk.found(x, "where nobody is", () -> x.sure(0), NOUGHT);
        Desk.lay(x, 0, 1, 1);
        Desk.found(x, "what nobody has", () -> x.sure(0), NOUGHT);
        Desk.lay(x, 0, 0, 1, 0, 1);
        Desk.due("sure of both", x.sure(0), 3);
        Desk.due("asked()", x.asked(), 0);
    }

    private static void sureSets() {
        Desk.sentence("SPEAKERS (bits) in all such WAYS; those in none by asked()");
        HerOrders x = Desk.houseOf("v0319 v0119 v0219 v0259");
        Desk.lay(x, 0, 1, 1, 0, 1);
        Desk.due("sure of 1 0", x.sure(0), 0);
        Desk.due("asked()", x.asked(), 8);
        Desk.lay(x, 0, 0, 1, 0, 1, 0, 1);
        Desk.due("sure of 0 0 0", x.sure(0), 3);
        Desk.due("asked()", x.asked(), 12);
        Desk.lay(x, 0, 1, 5);
        Desk.due("sure of 1 in 5", x.sure(0), 8);
        Desk.due("asked()", x.asked(), 7);
    }
}
