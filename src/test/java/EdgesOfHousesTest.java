/** A test for each boundary that the document names of TEXTS, FAULTS, HOUSES and SPEAKERS (promises 8 to 13). */
public final class EdgesOfHousesTest {
    private static final int BAD = HerOrders.BAD, STATE = HerOrders.STATE, NONE = HerOrders.NONE;
    private static final int MIN = Integer.MIN_VALUE, MAX = Integer.MAX_VALUE;
    private static final int NOTHING = 1, BEYOND = 2, UNLIKE = 3, SIZE = 5;

    public static void main(String[] args) {
        textNumbers();
        textSizes();
        textIsAllBlanks();
        putCutsToAByte();
        putPlaces();
        blanksAnywhereButWithin();
        letters();
        twoFigures();
        signsThatAreNoFigures();
        roomsAndBreath();
        aSeventhSpeaker();
        endTooEarly();
        blanksAlone();
        theFirstFaultOfSeveral();
        faultRefused();
        houseOfOneAndOfSix();
        houseAnew();
        houseRefused();
        houseStaysWhenItsTextGoes();
        houseOfFewerBehindOneOfMore();
        chancesOfFewerBehindMore();
        speakerNumbers();
        speakerFacts();
        markKinds();
        markRefused();
        markOfParrots();
        markOfCagesAsParrots();
        markOfStairs();
        markOfNephews();
        markOfMaids();
        markOfCages();
        Desk.finish();
    }

    private static void textNumbers() {
        Desk.sentence("TEXTS 0 .. 3");
        HerOrders x = new HerOrders();
        for (int t = 0; t <= 3; t++) {
            Desk.due("text(" + t + ", 1)", x.text(t, 1), 1);
            Desk.due("count(9)", x.count(9), t + 1);
        }
        for (int t : new int[] {-1, 4, MIN, MAX}) Desk.refused(x, "text(" + t + ", 1)", () -> x.text(t, 1), BAD);
    }

    private static void textSizes() {
        Desk.sentence("rows of 0 to 60 bytes; BAD: also n above 60; SIZE: below 0");
        HerOrders x = new HerOrders();
        for (int n = 0; n <= 60; n++) {
            Desk.due("text(0, " + n + ")", x.text(0, n), n);
            Desk.due("the place behind the last", x.put(0, n, 1), -3);
            if (n > 0) Desk.due("the last place", x.put(0, n - 1, 1), 1032);
        }
        HerOrders y = new HerOrders();
        for (int n : new int[] {61, MAX}) Desk.refused(y, "text(0, " + n + ")", () -> y.text(0, n), BAD);
        for (int n : new int[] {-1, -9, MIN}) Desk.found(y, "text(0, " + n + ")", () -> y.text(0, n), SIZE);
        Desk.due("it is still missing", y.count(9), 0);
        y.text(0, 1);
        y.put(0, 0, 65);
        Desk.refused(y, "text(0, 61)", () -> y.text(0, 61), BAD);
        Desk.found(y, "text(0, -1)", () -> y.text(0, -1), SIZE);
        Desk.due("it stays as it was", y.put(0, 0, 0), 1065);
    }

    private static void textIsAllBlanks() {
        Desk.sentence("A TEXT is there with n blanks");
        HerOrders x = new HerOrders();
        x.text(1, 60);
        for (int i = 0; i < 60; i++) x.put(1, i, i);
        x.text(1, 1);
        x.text(1, 60);
        for (int i = 0; i < 60; i++) Desk.due("anew, place " + i, x.put(1, i, 0), 1032);
    }

    private static void putCutsToAByte() {
        Desk.sentence("Byte i of a TEXT is v, cut to a byte (-128 .. 127): what it was, and 1000 more");
        int[] put = {127, 128, 129, 255, 256, 383, 384, -1, -128, -129, -256, MIN, MAX, 1000};
        int[] then = {127, -128, -127, -1, 0, 127, -128, -1, -128, 127, 0, 0, -1, -24};
        HerOrders x = new HerOrders();
        x.text(2, 1);
        int was = 32;
        for (int k = 0; k < put.length; k++) {
            Desk.due("put(2, 0, " + put[k] + ")", x.put(2, 0, put[k]), 1000 + was);
            was = then[k];
        }
        Desk.due("put(2, 0, 0)", x.put(2, 0, 0), 1000 + was);
        Desk.due("asked() is not told", x.asked(), 0);
    }

    private static void putPlaces() {
        Desk.sentence("put: BAD; NOTHING; BEYOND");
        HerOrders x = new HerOrders();
        x.text(3, 60);
        Desk.due("put(3, 0, 1)", x.put(3, 0, 1), 1032);
        Desk.due("put(3, 59, 2)", x.put(3, 59, 2), 1032);
        Desk.due("put(3, 0, 3)", x.put(3, 0, 3), 1001);
        for (int i : new int[] {-1, 60, MIN, MAX}) Desk.found(x, "put(3, " + i + ", 1)", () -> x.put(3, i, 1), BEYOND);
        for (int t : new int[] {-1, 4, MIN, MAX}) Desk.refused(x, "put(" + t + ", 0, 1)", () -> x.put(t, 0, 1), BAD);
        HerOrders y = new HerOrders();
        Desk.found(y, "put(0, 0, 1) of a missing one", () -> y.put(0, 0, 1), NOTHING);
        Desk.found(y, "put(0, -1, 1) of a missing one", () -> y.put(0, -1, 1), NOTHING);
        y.text(0, 0);
        Desk.found(y, "put in a TEXT without places", () -> y.put(0, 0, 1), BEYOND);
    }

    /** The FAULT of a TEXT; with none, it makes a HOUSE of so many SPEAKERS. */
    private static void faultIs(String text, int want, int speakers) {
        HerOrders x = new HerOrders();
        Desk.write(x, 0, text);
        Desk.due("fault of <" + text + ">", x.fault(0), want);
        Desk.due("house by <" + text + ">", x.house(0), want == NONE ? speakers : STATE);
    }

    private static void faultIs(String text, int want) {
        faultIs(text, want, 0);
    }

    private static void blanksAnywhereButWithin() {
        Desk.sentence("blanks (32) ahead, between, behind as many as wanted, none within items");
        faultIs("v0001", NONE, 1);
        faultIs("v0001v0001", NONE, 2);
        faultIs("v0001 v0001", NONE, 2);
        faultIs(" v0001  v0001   ", NONE, 2);
        faultIs(" ".repeat(55) + "v0001", NONE, 1);
        faultIs("v0001" + " ".repeat(55), NONE, 1);
        faultIs("v0001" + " ".repeat(50) + "v0001", NONE, 2);
        for (int k = 1; k < 5; k++) faultIs("v0001".substring(0, k) + " " + "v0001".substring(k), k);
        for (char other : new char[] {0, 9, 10, 13, 31, 33, 160}) faultIs("v0001" + other + "v0001", 5);
    }

    private static void letters() {
        Desk.sentence("a letter: 0 v, 1 p, 2 s, 3 n, 4 m, 5 c");
        for (int letter = 0; letter < 256; letter++) {
            int kind = "vpsnmc".indexOf(letter);
            HerOrders x = new HerOrders();
            Desk.write(x, 0, "v0001 " + (char) letter + "0001");
            int want = kind >= 0 ? NONE : letter == 32 ? 7 : 6;
            Desk.due("fault with letter " + letter, x.fault(0), want);
            if (kind < 0) continue;
            x.house(0);
            Desk.told(x, "KIND by letter " + letter, x.speaker(1, 0), kind);
        }
    }

    private static void twoFigures() {
        Desk.sentence("two figures, 00 .. 63; two figures that are not as told: the place of the first of both");
        for (int words = 0; words < 100; words++) {
            HerOrders x = new HerOrders();
            Desk.write(x, 0, " v" + words / 10 + words % 10 + "01");
            Desk.due("fault with WORDS " + words, x.fault(0), words <= 63 ? NONE : 2);
            if (words > 63) continue;
            x.house(0);
            Desk.told(x, "WORDS", x.speaker(0, 1), words);
            Desk.due("what(0)", x.what(0), words);
        }
    }

    private static void signsThatAreNoFigures() {
        Desk.sentence("a figure that is none such: its place");
        for (int place = 1; place <= 4; place++) {
            for (int sign = 0; sign < 256; sign++) {
                if (sign >= '0' && sign <= '9') continue;
                HerOrders x = new HerOrders();
                Desk.write(x, 0, " v0001".substring(0, place + 1) + (char) sign + "v0001".substring(place + 1));
                Desk.due("fault with sign " + sign + " at " + place, x.fault(0), place + 1);
            }
        }
    }

    private static void roomsAndBreath() {
        Desk.sentence("the ROOM (0 .. 5), BREATH (1 .. 9), one figure each");
        for (int figure = 0; figure <= 9; figure++) {
            faultIs("v00" + figure + "1", figure <= 5 ? NONE : 3, 1);
            faultIs("v000" + figure, figure >= 1 ? NONE : 4, 1);
        }
        HerOrders x = Desk.houseOf("v0001 v0059");
        Desk.told(x, "ROOM 0", x.speaker(0, 2), 0);
        Desk.told(x, "ROOM 5", x.speaker(1, 2), 5);
        Desk.told(x, "BREATH 1", x.speaker(0, 3), 1);
        Desk.told(x, "BREATH 9", x.speaker(1, 3), 9);
    }

    private static void aSeventhSpeaker() {
        Desk.sentence("SPEAKERS (1 to 6); a seventh SPEAKER: its place");
        String six = "v0001p0001s0001n0001m0001c0001";
        faultIs(six, NONE, 6);
        faultIs(six + "   ", NONE, 6);
        faultIs(six + "v0001", 30);
        faultIs(six + "  v0001", 32);
        faultIs(six + "v", 30);
        faultIs(six + "x", 30);
        faultIs(six + " 7", 31);
        faultIs(six.substring(0, 25) + "c0000v", 29);
    }

    private static void endTooEarly() {
        Desk.sentence("the TEXT's size, if its end comes too early");
        String item = "v6359";
        for (int n = 1; n < 5; n++) {
            faultIs(item.substring(0, n), n);
            faultIs("p0001 " + item.substring(0, n), 6 + n);
            faultIs(" ".repeat(60 - n) + item.substring(0, n), 60);
        }
        faultIs("v9", 2);
        faultIs("v7", 2);
        HerOrders x = new HerOrders();
        Desk.write(x, 0, item);
        for (int n = 1; n < 5; n++) {
            x.text(0, n);
            for (int i = 0; i < n; i++) x.put(0, i, item.charAt(i));
            Desk.due("fault of " + n + " where 5 were", x.fault(0), n);
        }
    }

    private static void blanksAlone() {
        Desk.sentence("the TEXT's size, if .. there are blanks alone");
        for (int n = 0; n <= 60; n++) faultIs(" ".repeat(n), n);
    }

    private static void theFirstFaultOfSeveral() {
        Desk.sentence("A FAULT is the first place at which it can't go on so");
        faultIs("x9960", 0);
        faultIs("v9960", 1);
        faultIs("v6460", 1);
        faultIs("v6360", 3);
        faultIs("v6350", 4);
        faultIs("vx9", 1);
        faultIs("v9x", 2);
        faultIs("v99", 1);
        faultIs("v64", 1);
        faultIs("v0000x", 4);
        faultIs("v0001 v9901 x", 7);
    }

    private static void faultRefused() {
        Desk.sentence("A FAULT of a TEXT; NONE: there is none. BAD; NOTHING");
        HerOrders x = new HerOrders();
        for (int t : new int[] {-1, 4, MIN, MAX}) Desk.refused(x, "fault(" + t + ")", () -> x.fault(t), BAD);
        for (int t = 0; t <= 3; t++) {
            int missing = t;
            Desk.found(x, "fault(" + t + ")", () -> x.fault(missing), NOTHING);
        }
        Desk.write(x, 3, "c0001");
        Desk.due("fault(3)", x.fault(3), NONE);
        Desk.due("a FAULT is no FINDING", x.findings(NOTHING), 4);
    }

    private static void houseOfOneAndOfSix() {
        Desk.sentence("A HOUSE by a TEXT: how many SPEAKERS (1 to 6; 0, 1, .. as they come)");
        HerOrders x = new HerOrders();
        StringBuilder text = new StringBuilder();
        for (int n = 1; n <= 6; n++) {
            text.append("v00").append(n - 1).append(n);
            Desk.write(x, 0, text.toString());
            Desk.due("house of " + n, x.house(0), n);
            Desk.due("count(0)", x.count(0), n);
            Desk.told(x, "the last one's ROOM", x.speaker(n - 1, 2), n - 1);
            Desk.due("one more", x.speaker(n, 2), BAD);
        }
    }

    private static void houseAnew() {
        Desk.sentence("anew: HOUR 0, the ORDER empty, none ended, no DEEDS; kept HOUSES go");
        HerOrders x = Desk.houseWith("v6313 p6312", 1, 1);
        x.end();
        x.hour();
        x.say(1, 2);
        x.walk(0, 5);
        for (int k = 0; k < 3; k++) x.keep(k);
        int[] before = {2, 1, 6, 1, 1, 4};
        for (int what = 0; what < before.length; what++) Desk.due("count(" + what + ")", x.count(what), before[what]);
        Desk.due("house(0)", x.house(0), 2);
        int[] then = {2, 0, 0, 0, 0, 5, 63, 1, 0, 1, 0};
        for (int what = 0; what < then.length; what++) Desk.due("count(" + what + ") then", x.count(what), then[what]);
        Desk.told(x, "ROOM as told", x.speaker(0, 2), 1);
        Desk.told(x, "BREATH left", x.speaker(1, 4), 2);
        Desk.told(x, "WORDS of the ORDER", x.speaker(1, 5), 0);
        for (int k = 0; k < 3; k++) {
            int place = k;
            Desk.found(x, "on(" + k + ")", () -> x.on(place), NOTHING);
        }
        Desk.due("undo(1)", x.undo(1), BAD);
    }

    private static void houseRefused() {
        Desk.sentence("BAD; NOTHING; STATE: a FAULT. (STATE behind NOTHING.)");
        HerOrders x = Desk.houseWith("v6313 p6312", 1, 1);
        x.keep(1);
        Desk.write(x, 1, "v6313 ");
        x.put(1, 5, 'v');
        x.text(2, 0);
        Desk.refused(x, "house by a TEXT with a FAULT", () -> x.house(1), STATE);
        Desk.refused(x, "house by a TEXT without places", () -> x.house(2), STATE);
        Desk.found(x, "house by a missing TEXT", () -> x.house(3), NOTHING);
        for (int t : new int[] {-1, 4, MIN, MAX}) Desk.refused(x, "house(" + t + ")", () -> x.house(t), BAD);
        Desk.due("the kept HOUSE stays", x.on(1), 2);
        HerOrders y = new HerOrders();
        Desk.found(y, "house by a missing TEXT, none ahead", () -> y.house(0), NOTHING);
    }

    private static void houseStaysWhenItsTextGoes() {
        Desk.sentence("A HOUSE by a TEXT");
        HerOrders x = Desk.houseOf("n6343");
        x.text(0, 0);
        Desk.due("count(0)", x.count(0), 1);
        Desk.told(x, "KIND", x.speaker(0, 0), 3);
        Desk.told(x, "BREATH as told", x.speaker(0, 3), 3);
        x.walk(0, 1);
        x.undo(0);
        Desk.told(x, "ROOM", x.speaker(0, 2), 4);
    }

    /** A HOUSE of one, where one of six was, who could say more. */
    private static HerOrders fewerBehindMore() {
        HerOrders x = Desk.houseOf("v6319 p6319 c6319 p6319 n6319 s6319");
        x.say(0, 3);
        x.say(1, 4);
        x.walk(2, 2);
        Desk.write(x, 0, "v0112");
        Desk.due("house of one", x.house(0), 1);
        return x;
    }

    private static void houseOfFewerBehindOneOfMore() {
        Desk.sentence("A HOUSE by a TEXT (anew ..)");
        HerOrders x = fewerBehindMore();
        Desk.due("digest()", x.digest(), Desk.houseOf("v0112").digest());
        int[] due = {1, 0, 0, 0, 0, 2, 1, 0, 0, 1, 0};
        for (int what = 0; what < due.length; what++) Desk.due("count(" + what + ")", x.count(what), due[what]);
        for (int word = 0; word <= 5; word++) Desk.due("who(" + word + ")", x.who(word), word == 0 ? 1 : 0);
        Desk.due("dumb()", x.dumb(), 1);
        Desk.due("asked()", x.asked(), 1);
        Desk.due("longest(0)", x.longest(0), 1);
        Desk.rowIs(x, "longest", 0, 0);
        Desk.due("struck(1)", x.struck(1), NONE);
        Desk.due("struck(2)", x.struck(2), 0);
        x.say(0, 0);
        Desk.due("struck(1) behind a WORD", x.struck(1), 1);
        Desk.due("count(6) behind a WORD", x.count(6), 0);
        Desk.due("dumb() behind a WORD", x.dumb(), 1);
        Desk.due("asked()", x.asked(), 0);
        Desk.due("longest(0) behind a WORD", x.longest(0), 0);
    }

    private static void chancesOfFewerBehindMore() {
        Desk.sentence("A HOUSE by a TEXT (anew ..)");
        HerOrders x = fewerBehindMore();
        Desk.lay(x, 1, 0);
        Desk.shared(x, "ways", x.ways(1), 1, 1);
        Desk.due("asked()", x.asked(), 1);
        Desk.shared(x, "odds", x.odds(1, 5), 7, 12);
        Desk.shared(x, "mid", x.mid(1, 5), 7, 12);
        Desk.lay(x, 2, 0, 1);
        Desk.shared(x, "heard", x.heard(2), 1, 1);
        Desk.due("sure", x.sure(2), 1);
        Desk.due("asked()", x.asked(), 0);
        Desk.lay(x, 1, 0, 0);
        Desk.shared(x, "ways of two", x.ways(1), 0, 1);
        Desk.due("fourth", x.fourth(1, 1), 1);
        Desk.due("undo(0)", x.undo(0), 0);
    }

    private static void speakerNumbers() {
        Desk.sentence("Of a SPEAKER: 0 .. 5, all told by asked(): 1. BAD");
        HerOrders x = Desk.houseOf("v6312 p6312");
        for (int what = 0; what <= 5; what++) Desk.due("speaker(1, " + what + ")", x.speaker(1, what), 1);
        for (int i : new int[] {-1, 2, MIN, MAX}) Desk.refused(x, "speaker(" + i + ", 0)", () -> x.speaker(i, 0), BAD);
        for (int w : new int[] {-1, 6, MIN, MAX}) Desk.refused(x, "speaker(0, " + w + ")", () -> x.speaker(0, w), BAD);
        HerOrders y = new HerOrders();
        Desk.refused(y, "speaker(0, 0) of none", () -> y.speaker(0, 0), BAD);
    }

    private static void speakerFacts() {
        Desk.sentence("3 BREATH as told, 4 BREATH left, 5 how many WORDS of the ORDER one said");
        HerOrders x = Desk.houseWith("v6312 p6319", 0, 0, 0);
        Desk.told(x, "BREATH as told", x.speaker(0, 3), 2);
        Desk.told(x, "BREATH left, none", x.speaker(0, 4), 0);
        Desk.told(x, "WORDS said", x.speaker(0, 5), 2);
        Desk.told(x, "WORDS the other said", x.speaker(1, 5), 1);
        x.hour();
        Desk.told(x, "BREATH left behind an HOUR", x.speaker(0, 4), 2);
        Desk.told(x, "WORDS said behind an HOUR", x.speaker(0, 5), 2);
        x.walk(0, 0);
        Desk.told(x, "ROOM where one walked", x.speaker(0, 2), 0);
        x.end();
        Desk.told(x, "WORDS said of the next ORDER", x.speaker(0, 5), 0);
    }

    private static void markKinds() {
        Desk.sentence("1 PARROT (a VOICE), .. 4 MAID (a NEPHEW), 5 CAGE (a PARROT); UNLIKE: a SPEAKER of another KIND");
        HerOrders x = Desk.houseOf("v6312 p6312 s6312 n6312 m6312 c6312");
        for (int i = 0; i < 6; i++) {
            for (int kind = 1; kind < 6; kind++) {
                boolean is = i == kind || i == 4 && kind == 3 || i == 5 && kind == 1;
                Desk.due("mark(" + i + ", " + kind + ") is told", x.mark(i, kind) == -3 ? 0 : 1, is ? 1 : 0);
            }
        }
        Desk.due("findings(3)", x.findings(UNLIKE), 30 - 7);
        Desk.found(x, "mark(0, 1)", () -> x.mark(0, 1), UNLIKE);
    }

    private static void markRefused() {
        Desk.sentence("BAD: also KIND 0");
        HerOrders x = Desk.houseOf("v6312 p6312");
        for (int kind : new int[] {0, -1, 6, MIN, MAX}) {
            Desk.refused(x, "mark(0, " + kind + ")", () -> x.mark(0, kind), BAD);
        }
        for (int i : new int[] {-1, 2, MIN, MAX}) Desk.refused(x, "mark(" + i + ", 1)", () -> x.mark(i, 1), BAD);
        HerOrders y = new HerOrders();
        Desk.refused(y, "mark(0, 1) of none", () -> y.mark(0, 1), BAD);
    }

    private static void markOfParrots() {
        Desk.sentence("a PARROT how many WORDS he could say next that he does not have, .. aside");
        HerOrders x = Desk.houseOf("v6359 p0701 v6359");
        Desk.due("no WORD is said", x.mark(1, 1), 0);
        x.say(0, 2);
        Desk.due("one that he has", x.mark(1, 1), 0);
        x.say(2, 3);
        Desk.due("one that he has not, ROOMS aside", x.mark(1, 1), 1);
        Desk.due("he can't", x.what(1), 0);
        x.walk(1, 5);
        x.say(1, 3);
        Desk.due("BREATH aside, who spoke last aside", x.mark(1, 1), 1);
        for (int k = 0; k < 5; k++) x.say(k % 2 * 2, 4);
        Desk.due("8 WORDS", x.count(3), 8);
        Desk.due("how many WORDS the ORDER has aside", x.mark(1, 1), 1);
        x.end();
        Desk.due("the next ORDER", x.mark(1, 1), 0);
    }

    private static void markOfCagesAsParrots() {
        Desk.sentence("a CAGE also the one behind that (0 behind 5)");
        int[] having = {0, 1, 32, 33, 16};
        int[] behind5 = {2, 1, 1, 0, 2};
        int[] behind4 = {2, 2, 1, 1, 1};
        for (int k = 0; k < having.length; k++) {
            String cage = "c" + having[k] / 10 + having[k] % 10 + "19";
            HerOrders x = Desk.houseWith("v6319 " + cage, 5);
            Desk.due(cage + " behind 5", x.mark(1, 1), behind5[k]);
            x.undo(0);
            Desk.due(cage + " behind none", x.mark(1, 1), 0);
            x.say(0, 4);
            Desk.due(cage + " behind 4", x.mark(1, 1), behind4[k]);
        }
    }

    private static void markOfStairs() {
        Desk.sentence("a STAIR in how many HOURS it can speak (0: now)");
        HerOrders x = Desk.houseOf("s0001");
        for (int hour = 0; hour <= 40; hour++) {
            Desk.due("HOUR " + hour, x.mark(0, 2), hour % 2);
            x.hour();
        }
    }

    private static void markOfNephews() {
        Desk.sentence("a NEPHEW (MAID, too) how many others CAN say the next WORD (any)");
        HerOrders x = Desk.houseOf("n6319 m6319 v0019 v0111 v0151 p0019");
        Desk.due("at first, no NEPHEWS", x.mark(0, 3), 2);
        Desk.due("at first, for the MAID", x.mark(1, 3), 2);
        x.say(3, 0);
        Desk.due("behind a WORD: the MAID, the PARROT", x.mark(0, 3), 2);
        Desk.due("for the MAID: the NEPHEW, the PARROT", x.mark(1, 3), 2);
        x.say(0, 0);
        Desk.due("he himself does not count", x.mark(0, 3), 2);
        HerOrders y = Desk.houseOf("n6319");
        Desk.due("alone", y.mark(0, 3), 0);
        HerOrders z = Desk.houseWith("v6319 v6319 n6319", 0, 0, 0, 0, 0, 0, 0);
        Desk.due("behind 7 WORDS", z.mark(2, 3), 1);
        z.say(1, 0);
        Desk.due("behind 8 WORDS", z.mark(2, 3), 0);
    }

    private static void markOfMaids() {
        Desk.sentence("a MAID how many WORDS that she has are of even numbers");
        int[] having = {0, 1, 2, 4, 8, 16, 32, 21, 42, 63};
        int[] even = {0, 1, 0, 1, 0, 1, 0, 3, 0, 3};
        for (int k = 0; k < having.length; k++) {
            HerOrders x = Desk.houseOf("m" + having[k] / 10 + having[k] % 10 + "19");
            Desk.due("of WORDS " + having[k], x.mark(0, 4), even[k]);
        }
    }

    private static void markOfCages() {
        Desk.sentence("a CAGE how many SPEAKERS are in its ROOM besides");
        HerOrders x = Desk.houseOf("c0031");
        Desk.due("alone", x.mark(0, 5), 0);
        HerOrders y = Desk.houseOf("v0031 v0031 c0031 v0031 v0031 c0031");
        Desk.due("all", y.mark(2, 5), 5);
        y.walk(0, 4);
        Desk.due("one beside", y.mark(2, 5), 4);
        y.walk(2, 4);
        Desk.due("where it is now", y.mark(2, 5), 1);
        Desk.due("the other one", y.mark(5, 5), 3);
    }
}
