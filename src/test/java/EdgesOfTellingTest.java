/** A test for each boundary that the document names of chances, lots and what is told (promises 36 to 45). */
public final class EdgesOfTellingTest {
    private static final int BAD = HerOrders.BAD, FULL = HerOrders.FULL, STATE = HerOrders.STATE;
    private static final int NONE = HerOrders.NONE, MIN = Integer.MIN_VALUE, MAX = Integer.MAX_VALUE;
    private static final int NOTHING = 1, BEYOND = 2, UNLIKE = 3, NOUGHT = 4, SIZE = 5;
    private static final String SIX = "v6319 v6319 v6319 v6319 v6319 v6319";

    public static void main(String[] args) {
        twelfths();
        chancesWithoutHouse();
        chancesOfAllAndOfNone();
        chancesInLowestTerms();
        chancesOfSix();
        chancesOfNoWords();
        midFromNoneToAll();
        midToTheEighthWord();
        lotsNumbers();
        lotsSeeds();
        lotsFull();
        lotsSpeakersAndWords();
        lotsEndAtFour();
        lotsAreDeeds();
        askedBefore();
        askedByEachCallThatTells();
        askedStays();
        askedBehindRefusals();
        sharesBefore();
        sharesByEachCallThatTells();
        sharesStay();
        countNumbers();
        countOfAll();
        findingBefore();
        findingIsTheLatest();
        findingsNumbers();
        findingsHowOften();
        digestOfNone();
        digestOfAll();
        digestWrapsAround();
        aRunOf512Calls();
        Desk.finish();
    }

    private static void twelfths() {
        Desk.sentence("each SPEAKER is silent by p (0 .. 12) of 12. BAD, ahead of STATE");
        HerOrders x = Desk.houseOf("v0119");
        Desk.lay(x, 0, 0);
        int[] upper = {1, 11, 5, 3, 2, 7, 1, 5, 1, 1, 1, 1, 0};
        int[] lower = {1, 12, 6, 4, 3, 12, 2, 12, 3, 4, 6, 12, 1};
        for (int p = 0; p <= 12; p++) {
            Desk.shared(x, "odds(0, " + p + ")", x.odds(0, p), upper[p], lower[p]);
            Desk.shared(x, "mid(0, " + p + ")", x.mid(0, p), upper[p], lower[p]);
        }
        HerOrders none = new HerOrders();
        for (int p : new int[] {-1, 13, MIN, MAX}) {
            Desk.refused(x, "odds(0, " + p + ")", () -> x.odds(0, p), BAD);
            Desk.refused(x, "mid(0, " + p + ")", () -> x.mid(0, p), BAD);
            Desk.refused(none, "odds(0, " + p + ") of no house", () -> none.odds(0, p), BAD);
            Desk.refused(none, "mid(0, " + p + ") of no house", () -> none.mid(0, p), BAD);
        }
    }

    private static void chancesWithoutHouse() {
        Desk.sentence("STATE; NOTHING; SIZE; UNLIKE");
        HerOrders none = new HerOrders();
        Desk.refused(none, "odds(0, 0)", () -> none.odds(0, 0), STATE);
        Desk.refused(none, "mid(0, 12)", () -> none.mid(0, 12), STATE);
        HerOrders x = Desk.houseOf("v0119");
        Desk.found(x, "odds of a missing ROW", () -> x.odds(5, 0), NOTHING);
        Desk.found(x, "mid of a missing ROW", () -> x.mid(5, 0), NOTHING);
        Desk.lay(x, 5, 6, 6, 6, 6, 6, 6);
        Desk.found(x, "odds of 6", () -> x.odds(5, 0), SIZE);
        Desk.found(x, "mid of 6", () -> x.mid(5, 0), SIZE);
        Desk.lay(x, 5, -1);
        Desk.found(x, "odds of no WORD", () -> x.odds(5, 0), UNLIKE);
        Desk.found(x, "mid of no WORD", () -> x.mid(5, 0), UNLIKE);
    }

    private static void chancesOfAllAndOfNone() {
        Desk.sentence("in lowest terms, the lower number above 0 (0 by 1)");
        HerOrders x = Desk.houseOf("v0119 v0219 v0419");
        Desk.lay(x, 0, 0, 1, 2);
        Desk.shared(x, "odds, nobody silent", x.odds(0, 0), 1, 1);
        Desk.shared(x, "mid, nobody silent", x.mid(0, 0), 3, 1);
        Desk.shared(x, "odds, all silent", x.odds(0, 12), 0, 1);
        Desk.shared(x, "mid, all silent", x.mid(0, 12), 0, 1);
        Desk.lay(x, 0, 0, 1, 2, 3);
        Desk.shared(x, "odds, no WAY at all", x.odds(0, 0), 0, 1);
        Desk.shared(x, "odds, no WAY, some silent", x.odds(0, 5), 0, 1);
        Desk.shared(x, "mid, three of four", x.mid(0, 0), 3, 1);
        Desk.lay(x, 0, 3);
        Desk.shared(x, "mid, none of one", x.mid(0, 5), 0, 1);
    }

    private static void chancesInLowestTerms() {
        Desk.sentence("Chances, means .. are told by upper(), lower(), in lowest terms");
        HerOrders x = Desk.houseOf("v0119 v0219 v0419");
        Desk.lay(x, 0, 0, 1, 2);
        Desk.shared(x, "odds of 11 twelfths each", x.odds(0, 1), 11 * 11 * 11, 1728);
        Desk.shared(x, "odds of 10 twelfths each", x.odds(0, 2), 125, 216);
        Desk.shared(x, "odds of 1 twelfth each", x.odds(0, 11), 1, 1728);
        Desk.shared(x, "mid of halves", x.mid(0, 6), 7, 8);
        Desk.lay(x, 0, 0, 1);
        Desk.shared(x, "mid of two thirds", x.mid(0, 4), 10, 9);
    }

    private static void chancesOfSix() {
        Desk.sentence("each by himself (of 6 SPEAKERS)");
        HerOrders x = Desk.houseOf("v0119 v0219 v0419 v0819 v1619 v3219");
        Desk.lay(x, 0, 0, 1, 2, 3, 4);
        Desk.shared(x, "odds of five of six", x.odds(0, 1), 11L * 11 * 11 * 11 * 11, 248832);
        Desk.shared(x, "mid, 11 of 12", x.mid(0, 11), 1 + 12 + 144 + 1728 + 20736, 248832);
        HerOrders y = Desk.houseOf("v0119 v0119 v0119 v0119 v0119 v0119");
        Desk.lay(y, 0, 0);
        Desk.shared(y, "odds that one of six speaks", y.odds(0, 11), 2985984 - 11L * 11 * 11 * 11 * 11 * 11, 2985984);
        Desk.lay(y, 0, 0, 0, 0, 0, 0);
        Desk.shared(y, "odds that two of six speak", y.odds(0, 6), 57, 64);
        Desk.shared(y, "mid, none, one, or all", y.mid(0, 6), 6 + 5 * 57, 64);
    }

    private static void chancesOfNoWords() {
        Desk.sentence("a ROW of 0 .. WORDS");
        HerOrders x = Desk.houseOf("v0019 v0019");
        x.row(0, 0);
        for (int p = 0; p <= 12; p++) {
            Desk.shared(x, "odds(0, " + p + ")", x.odds(0, p), 1, 1);
            Desk.shared(x, "mid(0, " + p + ")", x.mid(0, p), 0, 1);
        }
    }

    private static void midFromNoneToAll() {
        Desk.sentence("The mean of how many WORDS of it from the first on can be said so");
        HerOrders x = Desk.houseOf("v6319 v6319");
        for (int n = 0; n <= 5; n++) {
            x.row(0, n);
            Desk.shared(x, "mid, nobody silent", x.mid(0, 0), n, 1);
            if (n == 1) Desk.shared(x, "mid of one, halves", x.mid(0, 6), 3, 4);
            if (n == 4) Desk.shared(x, "mid of four, halves", x.mid(0, 6), 3, 2);
        }
        HerOrders y = Desk.houseWith("v6319 v6319", 0);
        y.row(0, 1);
        Desk.shared(y, "one who is silent has still said the last", y.mid(0, 3), 3, 4);
    }

    private static void midToTheEighthWord() {
        Desk.sentence("An ORDER has 8 WORDS at most");
        HerOrders x = Desk.houseWith("v6319 v6319", 0, 0, 0, 0, 0, 0, 0);
        x.row(0, 3);
        Desk.shared(x, "mid behind 7", x.mid(0, 0), 1, 1);
        Desk.shared(x, "odds behind 7", x.odds(0, 0), 0, 1);
        x.say(1, 0);
        Desk.shared(x, "mid behind 8", x.mid(0, 0), 0, 1);
    }

    private static void lotsNumbers() {
        Desk.sentence("n (1 .. 20) DEEDS truly by LOTS. BAD; STATE: no SPEAKERS");
        HerOrders x = Desk.houseOf("v6319 p6319");
        for (int n : new int[] {0, -1, 21, MIN, MAX}) Desk.refused(x, "lots(" + n + ", 1)", () -> x.lots(n, 1), BAD);
        Desk.due("lots(1, 1)", x.lots(1, 1), x.count(3));
        Desk.due("count(2)", x.count(2), 1);
        Desk.due("lots(20, 1)", x.lots(20, 1), x.count(3));
        Desk.due("count(2)", x.count(2), 21);
        HerOrders none = new HerOrders();
        Desk.refused(none, "lots(1, 1) of no house", () -> none.lots(1, 1), STATE);
        Desk.refused(none, "lots(0, 1) of no house", () -> none.lots(0, 1), BAD);
        Desk.refused(none, "lots(1, 0) of no house", () -> none.lots(1, 0), BAD);
    }

    private static void lotsSeeds() {
        Desk.sentence("the first from the seed (1 .. 2147483646)");
        HerOrders x = Desk.houseOf("v6319 p6319");
        for (int seed : new int[] {0, -1, MIN, MAX}) {
            Desk.refused(x, "lots(1, " + seed + ")", () -> x.lots(1, seed), BAD);
        }
        Desk.due("lots(1, 1)", x.lots(1, 1), 1);
        x.undo(0);
        // 2147483646 times 48271 is 2147435376 modulo 2147483647.
        Desk.due("lots(1, MAX - 1)", x.lots(1, MAX - 1), 1);
        Desk.due("said(0)", x.said(0), 2147435376 / 64 % 6);
        Desk.due("asked()", x.asked(), 2147435376 / 8 % 2);
    }

    private static void lotsFull() {
        Desk.sentence("FULL: with n more there would be more than 40 DEEDS. (FULL last.)");
        HerOrders x = Desk.houseAfter("v6319 p6319", 20);
        Desk.due("lots(20, 7) to 40", x.lots(20, 7), x.count(3));
        Desk.due("count(2)", x.count(2), 40);
        Desk.refused(x, "lots(1, 7)", () -> x.lots(1, 7), FULL);
        Desk.refused(x, "lots(0, 7), BAD is ahead", () -> x.lots(0, 7), BAD);
        HerOrders y = Desk.houseAfter("v6319 p6319", 21);
        Desk.refused(y, "lots(20, 7) to 41", () -> y.lots(20, 7), FULL);
        Desk.due("lots(19, 7) to 40", y.lots(19, 7), y.count(3));
    }

    private static void lotsSpeakersAndWords() {
        Desk.sentence("SPEAKER it by 8, cut, modulo how many there are says WORD it by 64, cut, modulo 6, if he CAN");
        for (int n = 1; n <= 6; n++) {
            HerOrders x = Desk.houseOf(SIX.substring(0, 6 * n - 1));
            for (int seed : new int[] {1, 2, 3, 1000, 2147483646}) {
                x.undo(0);
                long lot = seed * 48271L % 2147483647L;
                Desk.due("lots(1, " + seed + ") of " + n, x.lots(1, seed), 1);
                Desk.due("said(0)", x.said(0), lot / 64 % 6);
                Desk.due("asked()", x.asked(), lot / 8 % n);
                x.undo(0);
                x.lots(2, seed);
                long next = lot * 48271L % 2147483647L;
                boolean can = next / 8 % n != lot / 8 % n;
                Desk.due("the second, WORDS", x.count(3), can ? 2 : 1);
                Desk.due("the second, HOUR", x.count(1), can ? 0 : 1);
                if (!can) continue;
                Desk.due("said(1)", x.said(1), next / 64 % 6);
                Desk.due("asked()", x.asked(), next / 8 % n);
            }
        }
    }

    private static void lotsEndAtFour() {
        Desk.sentence("else the ORDER is ended, if it has 4 WORDS or more, else an HOUR passes");
        for (int n = 1; n <= 8; n++) {
            HerOrders x = Desk.houseWith("v6319 v6319", 0, 0, 0, 0, 0, 0, 0, 0);
            x.undo(n);
            // Far from one another, neither of them CAN go on behind a WORD.
            x.walk(0, 0);
            x.walk(1, 5);
            Desk.due("count(6) behind " + n, x.count(6), 0);
            Desk.due("lots behind " + n, x.lots(1, n), n >= 4 ? 0 : n);
            Desk.due("ended behind " + n, x.count(4), n >= 4 ? 1 : 0);
            Desk.due("HOUR behind " + n, x.count(1), n >= 4 ? 0 : 1);
        }
        HerOrders y = Desk.houseOf("v0019");
        Desk.due("lots, nobody can at first", y.lots(20, 5), 0);
        Desk.due("HOUR", y.count(1), 20);
    }

    private static void lotsAreDeeds() {
        Desk.sentence("n DEEDS truly by LOTS");
        HerOrders x = Desk.houseOf("v6319 p6329 c6319");
        long first = x.digest();
        x.lots(7, 4711);
        long seventh = x.digest();
        x.lots(13, 4712);
        Desk.due("undo(7)", x.undo(7), 13);
        Desk.due("digest()", x.digest(), seventh);
        Desk.due("undo(0)", x.undo(0), 7);
        Desk.due("digest()", x.digest(), first);
        x.lots(20, 4711);
        x.undo(7);
        Desk.due("the same seed again", x.digest(), seventh);
    }

    private static void askedBefore() {
        Desk.sentence("asked(): 0 before");
        HerOrders x = new HerOrders();
        Desk.due("asked()", x.asked(), 0);
        x.at(0, 0);
        x.ways(0);
        x.row(0, 1);
        Desk.due("asked() behind others", x.asked(), 0);
    }

    private static void askedByEachCallThatTells() {
        Desk.sentence("lay(), at(), mean(), speaker(), said(), ways(), far(), dumb(), heard(), .. told");
        HerOrders x = Desk.houseOf("v0619 p0512");
        Desk.lay(x, 0, 3);
        Desk.told(x, "lay", x.lay(0, 0, 8), 3);
        Desk.told(x, "at", x.at(0, 0), 8);
        Desk.lay(x, 1, 4, 6);
        Desk.told(x, "mean", x.mean(1), 5);
        Desk.told(x, "speaker", x.speaker(1, 1), 5);
        Desk.lay(x, 1, 1, 1);
        Desk.told(x, "ways", x.ways(1), 3);
        Desk.due("far", x.far(1), 2);
        Desk.due("asked() by far", x.asked(), 1);
        Desk.due("dumb", x.dumb(), 1);
        Desk.due("asked() by dumb", x.asked(), 3);
        Desk.told(x, "heard", x.heard(1), 0);
        Desk.due("sure", x.sure(1), 1);
        Desk.due("asked() by sure", x.asked(), 2);
        x.row(2, 0);
        Desk.due("test", x.test(0, 2), 1);
        Desk.due("asked() by test", x.asked(), 4);
        Desk.lay(x, 1, 3);
        Desk.due("fourth", x.fourth(1, 0), 1);
        Desk.due("asked() by fourth", x.asked(), 8);
        x.say(1, 0);
        Desk.due("said", x.said(0), 0);
        Desk.due("asked() by said", x.asked(), 1);
    }

    private static void askedStays() {
        Desk.sentence("(no other call tells by asked())");
        HerOrders x = Desk.houseOf("v0619 p0512 s6319 n6319 m6319");
        Desk.lay(x, 0, 1, 1);
        x.speaker(0, 3);
        x.row(1, 1);
        x.tear(1);
        x.copy(0, 0, 0, 1, 1);
        x.text(1, 3);
        x.put(1, 0, 9);
        x.fault(0);
        x.mark(1, 1);
        x.mark(4, 4);
        x.say(0, 1);
        x.hour();
        x.walk(1, 2);
        x.who(1);
        x.what(1);
        x.few(0, 1);
        x.longest(1);
        x.row(2, 0);
        x.kinds(0, 2);
        x.off(0);
        x.struck(2);
        x.odds(0, 1);
        x.mid(0, 1);
        x.end();
        x.keep(0);
        x.lots(3, 3);
        x.undo(1);
        x.on(0);
        x.upper();
        x.lower();
        x.count(5);
        x.finding();
        x.findings(1);
        x.digest();
        x.house(0);
        Desk.due("asked()", x.asked(), 9);
    }

    private static void askedBehindRefusals() {
        Desk.sentence("that was not refused (nor answered NONE)");
        HerOrders x = Desk.houseOf("v6312 v6312 v6312 v6312 v6312 v6312");
        Desk.lay(x, 0, 0, 0, 1, 0, 0, 0);
        Desk.lay(x, 1, 5);
        x.row(2, 0);
        x.speaker(0, 1);
        Desk.due("lay", x.lay(0, 6, 1), -3);
        Desk.due("at", x.at(3, 0), -3);
        Desk.due("mean", x.mean(2), -3);
        Desk.due("speaker", x.speaker(6, 0), BAD);
        Desk.due("said", x.said(0), BAD);
        Desk.due("ways", x.ways(0), -3);
        Desk.due("far", x.far(6), BAD);
        Desk.due("dumb", x.dumb(), NONE);
        Desk.due("heard", x.heard(1), -3);
        x.row(3, 2);
        x.lay(3, 1, 5);
        x.speaker(0, 1);
        Desk.due("sure", x.sure(3), -3);
        Desk.due("test", x.test(0, 0), NONE);
        Desk.due("fourth", x.fourth(1, 0), NONE);
        Desk.due("asked()", x.asked(), 63);
    }

    private static void sharesBefore() {
        Desk.sentence("upper(): 0 before; lower(): 1 before");
        HerOrders x = new HerOrders();
        Desk.due("upper()", x.upper(), 0);
        Desk.due("lower()", x.lower(), 1);
        x.ways(0);
        x.odds(0, 1);
        Desk.due("upper() behind refusals", x.upper(), 0);
        Desk.due("lower() behind refusals", x.lower(), 1);
    }

    private static void sharesByEachCallThatTells() {
        Desk.sentence("The upper number that was told last; its lower number");
        HerOrders x = Desk.houseOf("v0119 v0119 v0119");
        Desk.lay(x, 0, 0);
        Desk.lay(x, 1, 0, 1);
        Desk.shared(x, "odds", x.odds(0, 3), 63, 64);
        Desk.shared(x, "ways", x.ways(0), 3, 1);
        Desk.shared(x, "mid", x.mid(0, 6), 7, 8);
        Desk.shared(x, "heard", x.heard(1), 3, 1);
        Desk.shared(x, "odds again", x.odds(0, 12), 0, 1);
    }

    private static void sharesStay() {
        Desk.sentence("(no other call tells by upper(), lower())");
        HerOrders x = Desk.houseOf("v0119 v0119 v0119");
        Desk.lay(x, 0, 0);
        x.odds(0, 3);
        Desk.lay(x, 1, 0, 1);
        x.few(0, 2);
        x.far(0);
        x.dumb();
        x.longest(2);
        x.sure(1);
        x.row(2, 0);
        x.kinds(0, 2);
        x.test(0, 2);
        x.fourth(0, 1);
        x.off(0);
        x.struck(3);
        x.mean(0);
        x.lots(1, 1);
        x.house(0);
        Desk.due("odds, refused", x.odds(0, 13), BAD);
        Desk.due("mid, refused", x.mid(5, 1), -3);
        Desk.due("ways, refused", x.ways(5), -3);
        Desk.due("heard, refused", x.heard(0), -3);
        Desk.due("upper()", x.upper(), 63);
        Desk.due("lower()", x.lower(), 64);
    }

    private static void countNumbers() {
        Desk.sentence("count: 0 .. 10. BAD");
        HerOrders x = new HerOrders();
        for (int what = 0; what <= 10; what++) Desk.due("count(" + what + ")", x.count(what), 0);
        for (int what : new int[] {-1, 11, MIN, MAX}) Desk.refused(x, "count(" + what + ")", () -> x.count(what), BAD);
    }

    private static void countOfAll() {
        Desk.sentence("0 SPEAKERS, .. 5 all BREATH left, .. 7 PARROTS (CAGES, too), 8 ROWS, 9 TEXTS, 10 kept HOUSES");
        HerOrders x = Desk.houseOf("p6319 c6319 v6319 p6319 c6319 p6319");
        for (int r = 0; r <= 5; r++) x.row(r, 0);
        for (int t = 0; t <= 3; t++) x.text(t, 0);
        for (int k = 0; k <= 2; k++) x.keep(k);
        int[] due = {6, 0, 0, 0, 0, 54, 63, 5, 6, 4, 3};
        for (int what = 0; what <= 10; what++) Desk.due("count(" + what + ")", x.count(what), due[what]);
        HerOrders y = Desk.houseWith("v0111 v0111", 0, 0);
        y.end();
        int[] then = {2, 0, 3, 0, 1, 0, 0, 0, 0, 1, 0};
        for (int what = 0; what <= 10; what++) Desk.due("count(" + what + ") then", y.count(what), then[what]);
        HerOrders z = Desk.houseAfter("n6319 m6319 s6319", 1);
        Desk.due("WORDS that nobody CAN say", z.count(6), 0);
        Desk.due("PARROTS among others", z.count(7), 0);
    }

    private static void findingBefore() {
        Desk.sentence("The latest FINDING (0 before any)");
        HerOrders x = new HerOrders();
        Desk.due("finding()", x.finding(), 0);
        x.row(6, 0);
        x.end();
        x.ways(0);
        x.who(6);
        Desk.due("finding() behind BAD, STATE", x.finding(), 0);
        HerOrders full = Desk.houseAfter("v0119", 40);
        full.hour();
        Desk.due("finding() behind FULL", full.finding(), 0);
    }

    private static void findingIsTheLatest() {
        Desk.sentence("FINDINGS: 1 NOTHING, 2 BEYOND, 3 UNLIKE, 4 NOUGHT, 5 SIZE");
        HerOrders x = Desk.houseOf("v0119");
        x.row(1, 0);
        int[] answers = {x.at(0, 0), x.finding(), x.at(1, 0), x.finding(), x.mark(0, 1), x.finding(), x.mean(1),
            x.finding(), x.row(0, -1), x.finding(), x.at(0, 0), x.finding()};
        int[] due = {-3, NOTHING, -3, BEYOND, -3, UNLIKE, -3, NOUGHT, -3, SIZE, -3, NOTHING};
        for (int k = 0; k < due.length; k++) Desk.due("answer " + k, answers[k], due[k]);
        x.row(0, 1);
        x.at(0, 0);
        x.say(0, 1);
        Desk.due("finding() stays", x.finding(), NOTHING);
        x.house(0);
        Desk.due("finding() of another house", x.finding(), NOTHING);
    }

    private static void findingsNumbers() {
        Desk.sentence("How often a FINDING (1 .. 5) was answered. BAD");
        HerOrders x = new HerOrders();
        for (int f = 1; f <= 5; f++) Desk.due("findings(" + f + ")", x.findings(f), 0);
        for (int f : new int[] {0, -1, 6, MIN, MAX}) Desk.due("findings(" + f + ")", x.findings(f), BAD);
        Desk.due("BAD is no FINDING", x.finding(), 0);
    }

    private static void findingsHowOften() {
        Desk.sentence("How often a FINDING was answered");
        HerOrders x = new HerOrders();
        for (int n = 1; n <= 200; n++) x.tear(n % 6);
        Desk.due("findings(1)", x.findings(NOTHING), 200);
        x.row(0, 0);
        for (int n = 1; n <= 3; n++) x.mean(0);
        x.row(0, -1);
        int[] due = {200, 0, 0, 3, 1};
        for (int f = 1; f <= 5; f++) Desk.due("findings(" + f + ")", x.findings(f), due[f - 1]);
    }

    private static long mixed(long h, long... values) {
        for (long v : values) h = 31 * h + v;
        return h;
    }

    private static void digestOfNone() {
        Desk.sentence("(-1: missing)");
        long counts = mixed(17, 0, 0, 0, 0, 0, 0, 0, 0, 0, 0, 0);
        HerOrders x = new HerOrders();
        Desk.due("new", x.digest(), mixed(counts, -1, -1, -1, -1, -1, -1, -1, -1, -1, -1, -1, -1, -1));
        x.row(0, 0);
        x.text(3, 0);
        counts = mixed(17, 0, 0, 0, 0, 0, 0, 0, 0, 1, 1, 0);
        Desk.due("without places", x.digest(), mixed(counts, -1, -1, -1, 0, -1, -1, -1, -1, -1, -1, -1, -1, 0));
        x.tear(0);
        counts = mixed(17, 0, 0, 0, 0, 0, 0, 0, 0, 0, 1, 0);
        Desk.due("torn", x.digest(), mixed(counts, -1, -1, -1, -1, -1, -1, -1, -1, -1, -1, -1, -1, 0));
    }

    private static void digestOfAll() {
        Desk.sentence("of each WORD of the ORDER it, who said it; of each SPEAKER ..; of each kept HOUSE ..; .. ROW");
        HerOrders x = Desk.houseWith("v6313 p0123", 5, 5);
        x.keep(0);
        x.hour();
        x.keep(2);
        Desk.lay(x, 5, MIN, MAX);
        x.text(0, 1);
        x.put(0, 0, 128);
        x.speaker(1, 3);
        long h = mixed(17, 2, 1, 3, 2, 0, 6, 63, 1, 1, 1, 2, 5, 0, 5, 1);
        h = mixed(h, 0, 63, 1, 3, 3, 1, 1, 1, 2, 3, 3, 1, 2, -1, 3, -1, -1, -1, -1, -1, 2, MIN, MAX);
        Desk.due("digest()", x.digest(), mixed(h, 1, -128, -1, -1, -1));
        Desk.due("asked() stays", x.asked(), 3);
        Desk.due("digest() again", x.digest(), mixed(h, 1, -128, -1, -1, -1));
    }

    private static void digestWrapsAround() {
        Desk.sentence("h = 31 h + v (as a long)");
        HerOrders x = new HerOrders();
        long h = mixed(17, 0, 0, 0, 0, 0, 0, 0, 0, 6, 0, 0, -1, -1, -1);
        for (int r = 0; r < 6; r++) {
            x.row(r, 40);
            h = mixed(h, 40);
            for (int i = 0; i < 40; i++) {
                if (i % 8 == r) x.lay(r, i, MAX - i);
                h = mixed(h, i % 8 == r ? MAX - i : 0);
            }
        }
        Desk.due("digest()", x.digest(), mixed(h, -1, -1, -1, -1));
    }

    private static void aRunOf512Calls() {
        Desk.sentence("An object is used for at most 512 calls");
        HerOrders x = new HerOrders();
        x.row(0, 1);
        for (int k = 1; k <= 510; k++) Desk.due("lay " + k, x.lay(0, 0, k), 1);
        Desk.due("the 512th", x.asked(), 509);
    }
}
