import java.util.function.IntSupplier;

/** What the tests share: houses and rows written in one line, and answers compared with those due. */
final class Desk {
    private static int wrong = 0;
    private static int compared = 0;
    private static String sentence = "";

    private Desk() {
    }

    /** The document's sentence that the next answers are compared by, told with one that is not as due. */
    static void sentence(String words) {
        sentence = "'" + words + "' ";
    }

    static void due(String call, long got, long want) {
        compared++;
        if (got == want) return;
        wrong++;
        System.out.println(sentence + call + " answered " + got + ", due is " + want);
    }

    /** A call that tells by asked(): it answers 1, and tells what is due. */
    static void told(HerOrders x, String call, int got, int want) {
        due(call, got, 1);
        due(call + ", asked()", x.asked(), want);
    }

    /** A call that tells by upper(), lower(): it answers 1, and tells what is due. */
    static void shared(HerOrders x, String call, int got, long upper, long lower) {
        due(call, got, 1);
        due(call + ", upper()", x.upper(), upper);
        due(call + ", lower()", x.lower(), lower);
    }

    /** A refused call: it answers BAD, FULL or STATE, and changes nothing at all. */
    static void refused(HerOrders x, String call, IntSupplier made, int want) {
        int latest = x.finding();
        int before = findings(x);
        unchanged(x, call, made, want);
        due(call + ", finding()", x.finding(), latest);
        due(call + ", findings()", findings(x), before);
    }

    /** A refused call: it answers FINDING, and changes finding(), findings() alone. */
    static void found(HerOrders x, String call, IntSupplier made, int finding) {
        int before = x.findings(finding);
        int all = findings(x);
        unchanged(x, call, made, HerOrders.FINDING);
        due(call + ", finding()", x.finding(), finding);
        due(call + ", findings(" + finding + ")", x.findings(finding), before + 1);
        due(call + ", all findings()", findings(x), all + 1);
    }

    private static void unchanged(HerOrders x, String call, IntSupplier made, int want) {
        long digest = x.digest();
        int asked = x.asked();
        long upper = x.upper();
        long lower = x.lower();
        due(call, made.getAsInt(), want);
        due(call + ", digest()", x.digest(), digest);
        due(call + ", asked()", x.asked(), asked);
        due(call + ", upper()", x.upper(), upper);
        due(call + ", lower()", x.lower(), lower);
    }

    private static int findings(HerOrders x) {
        int all = 0;
        for (int f = 1; f <= 5; f++) all += x.findings(f);
        return all;
    }

    static void write(HerOrders x, int t, String text) {
        x.text(t, text.length());
        for (int i = 0; i < text.length(); i++) x.put(t, i, text.charAt(i));
    }

    static HerOrders houseOf(String text) {
        HerOrders x = new HerOrders();
        write(x, 0, text);
        int speakers = x.house(0);
        if (speakers < 1) {
            wrong++;
            System.out.println("no house by " + text);
        }
        return x;
    }

    /** A house whose ORDER has these WORDS, said by the SPEAKERS 0, 1, 0, 1 .. */
    static HerOrders houseWith(String text, int... order) {
        HerOrders x = houseOf(text);
        for (int k = 0; k < order.length; k++) due("houseWith: say", x.say(k % 2, order[k]), k + 1);
        return x;
    }

    /** A house in which so many HOURS have passed. */
    static HerOrders houseAfter(String text, int hours) {
        HerOrders x = houseOf(text);
        for (int k = 1; k <= hours; k++) due("houseAfter: hour", x.hour(), k);
        return x;
    }

    static void lay(HerOrders x, int r, int... values) {
        x.row(r, values.length);
        for (int i = 0; i < values.length; i++) x.lay(r, i, values[i]);
    }

    /** A ROW has these places and no more. */
    static void rowIs(HerOrders x, String call, int r, int... values) {
        for (int i = 0; i < values.length; i++) told(x, call + ", at(" + r + ", " + i + ")", x.at(r, i), values[i]);
        due(call + ", at(" + r + ", " + values.length + ")", x.at(r, values.length), HerOrders.FINDING);
    }

    static void finish() {
        System.out.println(compared + " answers compared, " + wrong + " not as due");
        if (wrong != 0 || compared == 0) System.exit(1);
    }
}
