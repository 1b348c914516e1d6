/** A test for each boundary that the document names of what one CAN say and of DEEDS (terms, promises 14 to 23). */
public final class EdgesOfDeedsTest {
    private static final int BAD = HerOrders.BAD, FULL = HerOrders.FULL, STATE = HerOrders.STATE;
    private static final int MIN = Integer.MIN_VALUE, MAX = Integer.MAX_VALUE;
    private static final int NOTHING = 1;

    public static void main(String[] args) {
        wordsThatOneHas();
        parrotsEcho();
        cagesGoOn();
        stairsInEvenHours();
        nephewsNotFirst();
        maidsOddNumbers();
        breathLeft();
        notTwiceOneBehindTheOther();
        roomsBeside();
        whereThatOneIsNow();
        firstAnywhere();
        eightWordsAtMost();
        sayRefused();
        sayFull();
        endRefused();
        endOfOneAndOfEight();
        hourRefused();
        hourGivesBreath();
        walkRefused();
        walkHowFar();
        allDeedsCount();
        undoNumbers();
        undoOfEachDeed();
        undoOfAll();
        keepPlaces();
        keepRefused();
        keepIsNotChanged();
        onRefused();
        onFromMoreAndFromFewer();
        whoNumbers();
        whatNumbers();
        saidNumbers();
        Desk.finish();
    }

    private static void whatIs(HerOrders x, int i, int want) {
        Desk.due("what(" + i + ")", x.what(i), want);
        for (int word = 0; word < 6; word++) {
            Desk.due("who(" + word + ")", x.who(word) >> i & 1, want >> word & 1);
            if ((want >> word & 1) != 0) continue;
            int not = word;
            Desk.due("say(" + i + ", " + word + ")", x.say(i, not), STATE);
        }
    }

    private static void wordsThatOneHas() {
        Desk.sentence("One CAN say a WORD next, if one has it");
        whatIs(Desk.houseOf("v0019"), 0, 0);
        whatIs(Desk.houseOf("v0119"), 0, 1);
        whatIs(Desk.houseOf("v3219"), 0, 32);
        whatIs(Desk.houseOf("v6319"), 0, 63);
        whatIs(Desk.houseWith("v6319 v0119", 5), 1, 1);
    }

    private static void parrotsEcho() {
        Desk.sentence("a PARROT (CAGE, too) also the one said last in this ORDER");
        whatIs(Desk.houseOf("v6319 p0019"), 1, 0);
        whatIs(Desk.houseWith("v6319 p0019", 3), 1, 8);
        whatIs(Desk.houseWith("v6319 p0419", 3), 1, 12);
        HerOrders x = Desk.houseWith("v6319 v6319 p0019 v6319", 3, 4);
        whatIs(x, 2, 16);
        whatIs(x, 3, 63);
        x.end();
        whatIs(x, 2, 0);
    }

    private static void cagesGoOn() {
        Desk.sentence("a CAGE also the one behind that (0 behind 5)");
        whatIs(Desk.houseOf("c0019"), 0, 0);
        int[] then = {3, 6, 12, 24, 48, 33};
        for (int last = 0; last < 6; last++) {
            whatIs(Desk.houseWith("v6319 c0019", last), 1, then[last]);
            whatIs(Desk.houseWith("v6319 p0019", last), 1, 1 << last);
        }
        HerOrders x = Desk.houseWith("v6319 c0119", 2);
        whatIs(x, 1, 13);
        x.end();
        whatIs(x, 1, 1);
    }

    private static void stairsInEvenHours() {
        Desk.sentence("a STAIR only in HOURS of an even number");
        HerOrders x = Desk.houseWith("v6319 s6319", 0);
        for (int hour = 0; hour < 6; hour++) {
            whatIs(x, 1, hour % 2 == 0 ? 63 : 0);
            x.hour();
        }
        HerOrders y = Desk.houseAfter("s0919", 1);
        whatIs(y, 0, 0);
        y.hour();
        whatIs(y, 0, 9);
    }

    private static void nephewsNotFirst() {
        Desk.sentence("a NEPHEW (MAID, too) not as the first of an ORDER");
        HerOrders x = Desk.houseOf("v6319 n6319 m6319");
        whatIs(x, 1, 0);
        whatIs(x, 2, 0);
        x.say(0, 0);
        whatIs(x, 1, 63);
        whatIs(x, 2, 42);
        x.end();
        whatIs(x, 1, 0);
        whatIs(x, 2, 0);
    }

    private static void maidsOddNumbers() {
        Desk.sentence("a MAID besides only WORDS of odd numbers");
        whatIs(Desk.houseWith("v6319 m6319", 0), 1, 42);
        whatIs(Desk.houseWith("v6319 m2119", 1), 1, 0);
        whatIs(Desk.houseWith("v6319 m3319", 1), 1, 32);
        whatIs(Desk.houseWith("v6319 n2119", 1), 1, 21);
    }

    private static void breathLeft() {
        Desk.sentence("if one has BREATH left; a WORD said takes 1 of BREATH");
        HerOrders x = Desk.houseWith("v6312 v6319", 0, 0, 0, 0);
        whatIs(x, 0, 0);
        x.end();
        whatIs(x, 0, 0);
        whatIs(x, 1, 63);
        x.hour();
        whatIs(x, 0, 63);
        Desk.told(x, "BREATH left of the other", x.speaker(1, 4), 9);
        HerOrders y = Desk.houseWith("v6311 p6311 v6319", 4, 4);
        y.say(2, 4);
        whatIs(y, 1, 0);
    }

    private static void notTwiceOneBehindTheOther() {
        Desk.sentence("did not say the one said last");
        HerOrders x = Desk.houseWith("v6319 v6319", 0);
        whatIs(x, 0, 0);
        whatIs(x, 1, 63);
        x.hour();
        whatIs(x, 0, 0);
        x.walk(0, 2);
        whatIs(x, 0, 0);
        x.say(1, 0);
        whatIs(x, 0, 63);
        whatIs(x, 1, 0);
        x.end();
        whatIs(x, 1, 63);
    }

    private static void roomsBeside() {
        Desk.sentence("is in the ROOM of who said that, or in one beside it (a number more or less)");
        for (int there = 0; there <= 5; there++) {
            for (int here = 0; here <= 5; here++) {
                HerOrders x = Desk.houseWith("v63" + there + "9 v63" + here + "9", 0);
                Desk.due("from " + there + " to " + here, x.what(1), Math.abs(there - here) <= 1 ? 63 : 0);
            }
        }
    }

    private static void whereThatOneIsNow() {
        Desk.sentence("(where that one is now)");
        HerOrders x = Desk.houseWith("v6319 v6319", 0);
        x.walk(0, 3);
        whatIs(x, 1, 0);
        x.walk(1, 4);
        whatIs(x, 1, 63);
        x.walk(0, 5);
        whatIs(x, 1, 63);
        x.walk(1, 3);
        whatIs(x, 1, 0);
        HerOrders y = Desk.houseWith("v6319 v6329 v6339", 0, 0);
        whatIs(y, 2, 63);
        y.walk(0, 5);
        whatIs(y, 2, 63);
        whatIs(y, 0, 0);
    }

    private static void firstAnywhere() {
        Desk.sentence("the first of an ORDER: anywhere");
        HerOrders x = Desk.houseWith("v6309 v6359", 0);
        whatIs(x, 1, 0);
        x.end();
        whatIs(x, 1, 63);
        whatIs(x, 0, 63);
    }

    private static void eightWordsAtMost() {
        Desk.sentence("An ORDER has 8 WORDS at most (then nobody CAN say one next)");
        HerOrders x = Desk.houseOf("v6319 c6319 p6319");
        for (int k = 0; k < 8; k++) {
            whatIs(x, 2, 63);
            Desk.due("WORD " + k, x.say(k % 2, k % 6), k + 1);
        }
        for (int i = 0; i < 3; i++) whatIs(x, i, 0);
        Desk.due("count(6)", x.count(6), 0);
        x.hour();
        Desk.due("behind an HOUR", x.count(6), 0);
        Desk.due("end()", x.end(), 8);
        Desk.due("the next ORDER", x.count(6), 63);
    }

    private static void sayRefused() {
        Desk.sentence("A WORD (0 .. 5) is said. BAD; STATE: one CAN not say it next");
        HerOrders x = Desk.houseOf("v3119 v6319");
        for (int i : new int[] {-1, 2, MIN, MAX}) Desk.refused(x, "say(" + i + ", 0)", () -> x.say(i, 0), BAD);
        for (int w : new int[] {-1, 6, -9, 31, 32, MIN, MAX}) {
            Desk.refused(x, "say(0, " + w + ")", () -> x.say(0, w), BAD);
        }
        Desk.refused(x, "say(0, 5)", () -> x.say(0, 5), STATE);
        Desk.due("say(0, 0)", x.say(0, 0), 1);
        Desk.due("say(1, 5)", x.say(1, 5), 2);
        HerOrders y = new HerOrders();
        Desk.refused(y, "say(0, 0) of none", () -> y.say(0, 0), BAD);
    }

    private static void sayFull() {
        Desk.sentence("say: FULL: 40 DEEDS. (FULL last.)");
        HerOrders x = Desk.houseAfter("v0119 v0119", 39);
        Desk.due("the 40th", x.say(0, 0), 1);
        Desk.refused(x, "the 41st", () -> x.say(1, 0), FULL);
        Desk.refused(x, "BAD is ahead", () -> x.say(2, 0), BAD);
        Desk.refused(x, "no WORD is ahead", () -> x.say(1, 6), BAD);
        Desk.refused(x, "STATE is ahead, a WORD that he has not", () -> x.say(1, 1), STATE);
        Desk.refused(x, "STATE is ahead, the one said last", () -> x.say(0, 0), STATE);
    }

    private static void endRefused() {
        Desk.sentence("The ORDER is ended. STATE: it has none; FULL. (FULL last.)");
        HerOrders none = new HerOrders();
        Desk.refused(none, "end() of no house", none::end, STATE);
        HerOrders x = Desk.houseOf("v0119");
        Desk.refused(x, "end() at first", x::end, STATE);
        x.say(0, 0);
        x.end();
        Desk.refused(x, "end() again", x::end, STATE);
        HerOrders full = Desk.houseAfter("v0119", 39);
        full.say(0, 0);
        Desk.refused(full, "a 41st DEED", full::end, FULL);
        HerOrders empty = Desk.houseAfter("v0119", 40);
        Desk.refused(empty, "STATE is ahead", empty::end, STATE);
        HerOrders last = Desk.houseAfter("v0119", 38);
        last.say(0, 0);
        Desk.due("the 40th", last.end(), 1);
    }

    private static void endOfOneAndOfEight() {
        Desk.sentence("it is ended, when it has any, and the next one is begun: how many WORDS it had");
        for (int n = 1; n <= 8; n++) {
            HerOrders x = Desk.houseWith("v6319 v6319", 0, 1, 2, 3, 4, 5, 0, 1);
            x.undo(n);
            Desk.due("end() of " + n, x.end(), n);
            Desk.due("count(3)", x.count(3), 0);
            Desk.due("count(4)", x.count(4), 1);
            Desk.due("BREATH stays spent", x.count(5), 18 - n);
        }
    }

    private static void hourRefused() {
        Desk.sentence("An HOUR passes: the HOUR then. STATE: no SPEAKERS; FULL. (FULL last.)");
        HerOrders none = new HerOrders();
        Desk.refused(none, "hour() of no house", none::hour, STATE);
        HerOrders x = Desk.houseAfter("v0119", 40);
        Desk.refused(x, "the 41st", x::hour, FULL);
        Desk.due("count(1)", x.count(1), 40);
    }

    private static void hourGivesBreath() {
        Desk.sentence("An HOUR passes: each has all BREATH again; the ORDER goes on");
        HerOrders x = Desk.houseWith("v6312 v6311 p6349", 3, 4, 5);
        x.hour();
        for (int i = 0; i < 3; i++) {
            x.speaker(i, 3);
            Desk.told(x, "BREATH left", x.speaker(i, 4), x.asked());
        }
        Desk.due("count(3)", x.count(3), 3);
        Desk.due("said(2)", x.said(2), 5);
        Desk.due("count(4)", x.count(4), 0);
        Desk.due("it goes on", x.say(1, 0), 4);
        HerOrders six = Desk.houseWith("v6311 v6312 v6313 v6314 v6315 v6316", 0, 0);
        six.say(5, 0);
        Desk.due("BREATH of six, three spent", six.count(5), 18);
        six.hour();
        Desk.due("BREATH of six", six.count(5), 21);
    }

    private static void walkRefused() {
        Desk.sentence("One WALKS to another ROOM (0 .. 5). BAD; STATE: one is there; FULL. (FULL last.)");
        HerOrders x = Desk.houseOf("v0139");
        for (int i : new int[] {-1, 1, MIN, MAX}) Desk.refused(x, "walk(" + i + ", 0)", () -> x.walk(i, 0), BAD);
        for (int room : new int[] {-1, 6, MIN, MAX}) {
            Desk.refused(x, "walk(0, " + room + ")", () -> x.walk(0, room), BAD);
        }
        Desk.refused(x, "walk(0, 3)", () -> x.walk(0, 3), STATE);
        HerOrders full = Desk.houseAfter("v0139", 39);
        Desk.due("the 40th", full.walk(0, 2), 1);
        Desk.refused(full, "the 41st", () -> full.walk(0, 3), FULL);
        Desk.refused(full, "STATE is ahead", () -> full.walk(0, 2), STATE);
        Desk.refused(full, "BAD is ahead", () -> full.walk(0, 6), BAD);
        HerOrders none = new HerOrders();
        Desk.refused(none, "walk(0, 0) of none", () -> none.walk(0, 0), BAD);
    }

    private static void walkHowFar() {
        Desk.sentence("how far by numbers");
        for (int from = 0; from <= 5; from++) {
            for (int to = 0; to <= 5; to++) {
                HerOrders x = Desk.houseOf("v01" + from + "9");
                int way = Math.abs(from - to);
                Desk.due("from " + from + " to " + to, x.walk(0, to), way == 0 ? STATE : way);
                Desk.told(x, "ROOM", x.speaker(0, 2), to);
            }
        }
    }

    private static void allDeedsCount() {
        Desk.sentence("These are DEEDS (40 at most)");
        HerOrders x = Desk.houseOf("v6319 v6319");
        for (int k = 0; k < 10; k++) {
            x.hour();
            x.say(0, 1);
            x.walk(0, k % 2);
            Desk.due("count(2)", x.count(2), 4 * k + 3);
            x.end();
        }
        Desk.due("count(2)", x.count(2), 40);
        Desk.refused(x, "say", () -> x.say(0, 1), FULL);
        Desk.refused(x, "hour", x::hour, FULL);
        Desk.refused(x, "walk", () -> x.walk(0, 5), FULL);
        Desk.due("undo(39)", x.undo(39), 1);
        Desk.refused(x, "lots(2, 1)", () -> x.lots(2, 1), FULL);
        Desk.due("end()", x.end(), 1);
    }

    private static void undoNumbers() {
        Desk.sentence("DEEDS from number n on (n 0 to how many there are: then 0) are undone: how many. BAD");
        HerOrders x = Desk.houseAfter("v6319", 3);
        for (int n : new int[] {-1, 4, 41, MIN, MAX}) Desk.refused(x, "undo(" + n + ")", () -> x.undo(n), BAD);
        long digest = x.digest();
        Desk.due("undo(3)", x.undo(3), 0);
        Desk.due("nothing is changed", x.digest(), digest);
        Desk.due("undo(2)", x.undo(2), 1);
        Desk.due("undo(0)", x.undo(0), 2);
        Desk.due("undo(0) again", x.undo(0), 0);
        Desk.refused(x, "undo(1) of none", () -> x.undo(1), BAD);
        HerOrders full = Desk.houseAfter("v6319", 40);
        Desk.due("undo(40)", full.undo(40), 0);
        Desk.due("undo(0) of 40", full.undo(0), 40);
        HerOrders none = new HerOrders();
        Desk.due("undo(0) of no house", none.undo(0), 0);
        Desk.refused(none, "undo(1) of no house", () -> none.undo(1), BAD);
    }

    private static void undoOfEachDeed() {
        Desk.sentence("What is done: a WORD is said, an ORDER is ended, an HOUR passes, one WALKS");
        HerOrders x = Desk.houseWith("v6312 p6312", 1, 2);
        long before = x.digest();
        x.end();
        Desk.due("undo of end()", x.undo(2), 1);
        Desk.due("digest()", x.digest(), before);
        x.hour();
        Desk.due("undo of hour()", x.undo(2), 1);
        Desk.due("digest()", x.digest(), before);
        x.walk(1, 5);
        Desk.due("undo of walk()", x.undo(2), 1);
        Desk.due("digest()", x.digest(), before);
        x.say(0, 3);
        Desk.due("undo of say()", x.undo(2), 1);
        Desk.due("digest()", x.digest(), before);
        x.say(0, 3);
        x.hour();
        x.end();
        x.walk(0, 2);
        Desk.due("undo of all four", x.undo(2), 4);
        Desk.due("digest()", x.digest(), before);
    }

    private static void undoOfAll() {
        Desk.sentence("DEEDS from number n on .. are undone");
        HerOrders x = Desk.houseOf("v6312 p6342");
        long first = x.digest();
        for (int k = 0; k < 39; k++) x.walk(k % 2, k / 2 % 2 == 0 ? 5 : 0);
        x.say(1, 1);
        Desk.due("undo(0)", x.undo(0), 40);
        Desk.due("digest()", x.digest(), first);
        for (int k = 1; k <= 40; k++) Desk.due("there is room for 40 again", x.hour(), k);
    }

    private static void keepPlaces() {
        Desk.sentence("The HOUSE is kept in a place (0 .. 2): how many DEEDS");
        HerOrders x = Desk.houseOf("v6319");
        for (int k = 0; k <= 2; k++) {
            Desk.due("keep(" + k + ")", x.keep(k), k);
            Desk.due("count(10)", x.count(10), k + 1);
            x.hour();
        }
        Desk.due("keep(0) again", x.keep(0), 3);
        Desk.due("count(10)", x.count(10), 3);
        for (int k : new int[] {-1, 3, MIN, MAX}) Desk.refused(x, "keep(" + k + ")", () -> x.keep(k), BAD);
        HerOrders full = Desk.houseAfter("v6319", 40);
        Desk.due("keep of 40 DEEDS", full.keep(2), 40);
    }

    private static void keepRefused() {
        Desk.sentence("keep: BAD; STATE: no SPEAKERS");
        HerOrders x = new HerOrders();
        for (int k = 0; k <= 2; k++) {
            int place = k;
            Desk.refused(x, "keep(" + k + ")", () -> x.keep(place), STATE);
        }
        Desk.refused(x, "BAD is ahead", () -> x.keep(3), BAD);
        Desk.refused(x, "BAD is ahead", () -> x.keep(-1), BAD);
    }

    private static void keepIsNotChanged() {
        Desk.sentence("The HOUSE is as it was kept");
        HerOrders x = Desk.houseWith("v6312 p6342", 1);
        x.walk(1, 2);
        x.keep(1);
        long kept = x.digest();
        x.undo(0);
        x.say(1, 5);
        x.hour();
        x.end();
        Desk.due("on(1) behind other DEEDS", x.on(1), 2);
        Desk.due("digest()", x.digest(), kept);
        x.lots(20, 99);
        Desk.due("on(1) a second time", x.on(1), 2);
        Desk.due("digest()", x.digest(), kept);
        Desk.due("undo(1) of its DEEDS", x.undo(1), 1);
        Desk.due("on(1) a third time", x.on(1), 2);
        Desk.due("digest()", x.digest(), kept);
    }

    private static void onRefused() {
        Desk.sentence("on: BAD; NOTHING (a kept HOUSE that is missing)");
        HerOrders x = new HerOrders();
        Desk.found(x, "on(0) of no house", () -> x.on(0), NOTHING);
        HerOrders y = Desk.houseAfter("v6319", 2);
        y.keep(1);
        Desk.found(y, "on(0)", () -> y.on(0), NOTHING);
        Desk.found(y, "on(2)", () -> y.on(2), NOTHING);
        for (int k : new int[] {-1, 3, MIN, MAX}) Desk.refused(y, "on(" + k + ")", () -> y.on(k), BAD);
    }

    private static void onFromMoreAndFromFewer() {
        Desk.sentence("The HOUSE is as it was kept: how many DEEDS");
        HerOrders x = Desk.houseOf("v6319");
        Desk.due("keep(0)", x.keep(0), 0);
        for (int k = 0; k < 40; k++) x.hour();
        Desk.due("keep(2)", x.keep(2), 40);
        Desk.due("on(0)", x.on(0), 0);
        Desk.due("HOUR", x.count(1), 0);
        Desk.due("DEEDS", x.count(2), 0);
        Desk.due("on(2)", x.on(2), 40);
        Desk.due("HOUR", x.count(1), 40);
        Desk.refused(x, "a 41st DEED", x::hour, FULL);
        Desk.due("undo(39)", x.undo(39), 1);
        Desk.due("HOUR", x.count(1), 39);
    }

    private static void whoNumbers() {
        Desk.sentence("SPEAKERS (bits) who CAN say a WORD next. BAD: no WORD");
        HerOrders none = new HerOrders();
        for (int w = 0; w <= 5; w++) Desk.due("who(" + w + ") of no house", none.who(w), 0);
        Desk.refused(none, "who(6) of no house", () -> none.who(6), BAD);
        HerOrders x = Desk.houseOf("v6319 v6319 v6319 v6319 v6319 v6319");
        for (int w = 0; w <= 5; w++) Desk.due("who(" + w + ") of six", x.who(w), 63);
        for (int w : new int[] {-1, 6, -9, 32, MIN, MAX}) Desk.refused(x, "who(" + w + ")", () -> x.who(w), BAD);
    }

    private static void whatNumbers() {
        Desk.sentence("WORDS (bits) that one CAN say next. BAD");
        HerOrders none = new HerOrders();
        Desk.refused(none, "what(0) of no house", () -> none.what(0), BAD);
        HerOrders x = Desk.houseOf("v0019 v6319");
        Desk.due("what(0)", x.what(0), 0);
        Desk.due("what(1)", x.what(1), 63);
        for (int i : new int[] {-1, 2, MIN, MAX}) Desk.refused(x, "what(" + i + ")", () -> x.what(i), BAD);
    }

    private static void saidNumbers() {
        Desk.sentence("The i-th WORD of the ORDER; who said it by asked(). BAD: there is none such");
        HerOrders none = new HerOrders();
        Desk.refused(none, "said(0) of no house", () -> none.said(0), BAD);
        HerOrders x = Desk.houseWith("v6319 v6319", 5, 4, 3, 2, 1, 0, 5, 4);
        for (int k = 0; k < 8; k++) {
            Desk.due("said(" + k + ")", x.said(k), (11 - k) % 6);
            Desk.due("asked()", x.asked(), k % 2);
        }
        for (int k : new int[] {-1, 8, MIN, MAX}) Desk.refused(x, "said(" + k + ")", () -> x.said(k), BAD);
        x.undo(7);
        Desk.refused(x, "said(7) of 7", () -> x.said(7), BAD);
        x.end();
        Desk.refused(x, "said(0) of none", () -> x.said(0), BAD);
    }
}
