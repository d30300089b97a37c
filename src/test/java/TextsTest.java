/** Promises 22 to 26: texts, what is counted, the digest. */
final class TextsTest {
    private static final Check CHECK = new Check("TextsTest");

    private static void due(String call, long got, long want) {
        CHECK.due(call, got, want);
    }

    public static void main(String[] args) {
        type();
        faults();
        faultChangesNothing();
        goodTexts();
        ordersAreDone();
        lossOrders();
        ordersPassedOver();
        longestText();
        told();
        digest();
        CHECK.close();
    }

    private static void typeAll(OrphanLogs o, String text) {
        o.clear();
        for (int i = 0; i < text.length(); i++) o.type(text.charAt(i));
    }

    private static int does(OrphanLogs o, String text) {
        typeAll(o, text);
        return o.does();
    }

    private static void type() {
        OrphanLogs o = new OrphanLogs();
        due("23 empty", o.clear(), 0);
        due("22 least", o.type(0), 1);
        due("22 last", o.type(127), 2);
        due("22 below", o.type(-1), -2);
        due("22 above", o.type(128), -2);
        for (int i = 3; i <= 120; i++) due("22 more", o.type('r'), i);
        due("22 full", o.type('r'), -4);
        due("22 bad first", o.type(128), -2);
        due("22 stays", o.told(3), 120);
        due("22 counted", o.told(2), 1);
        due("23 had", o.clear(), 120);
        due("23 empty", o.clear(), 0);
        due("22 again", o.type('r'), 1);
    }

    private static void fault(String text, int place) {
        due("24 '" + text + "'", does(new OrphanLogs(), text), -10 - place);
    }

    private static void faults() {
        fault("", 0);
        fault("   ", 3);
        fault(";", 0);
        fault("r", 1);
        fault("r ", 2);
        fault("r;;", 2);
        fault("r; ;", 3);
        fault("r;q", 2);
        fault("R;", 0);
        fault("r5;", 1);
        fault("rr;", 1);
        fault("r;r", 3);
        fault("r; r", 4);
        fault("w", 1);
        fault("w;", 1);
        fault("w0", 2);
        fault("w0;", 2);
        fault("w0 ", 3);
        fault("w0 5", 4);
        fault("w0 5 5;", 5);
        fault("w0 5w0 5;", 4);
        fault("w3 5;", 1);
        fault("w3", 1);
        fault("w05;", 1);
        fault("w00;", 3);
        fault("w0000 5;", 1);
        fault("w0 1000;", 3);
        fault("w0 0005;", 3);
        fault("w0 99999999999999999999;", 3);
        fault("w-1 5;", 1);
        fault("w0,5;", 2);
        fault("w0\t5;", 2);
        fault("\n", 0);
        fault("s0 0;", 3);
        fault("s0 00;", 3);
        fault("s0 3;", 3);
        fault("s3 0;", 1);
        fault("s1 1", 3);
        fault("s1;", 2);
        fault("g3 0;", 1);
        fault("g0 100;", 3);
        fault("g0;", 2);
        fault("l;", 1);
        fault("l3;", 1);
        fault("l0 0;", 3);
        fault("x3;", 1);
        fault("x;", 1);
        fault("o3;", 1);
        fault("o0000;", 1);
        fault("u0;", 1);
        fault("w0 5;s0 1;g1 0;x9;", 16);
        OrphanLogs two = new OrphanLogs();
        two.clerks(2);
        due("24 n less 1", does(two, "o1;o2;"), -10 - 4);
        OrphanLogs five = new OrphanLogs();
        five.clerks(5);
        due("24 n less 1", does(five, "o4;o5;"), -10 - 4);
    }

    private static void faultChangesNothing() {
        OrphanLogs o = new OrphanLogs();
        due("24 late fault", does(o, "w0 5;o0;x0;q"), -10 - 11);
        for (int what = 0; what <= 9; what++) {
            due("24 told " + what, o.told(what), what == 3 ? 12 : what == 4 ? 3 : 0);
        }
        due("24 no page", o.of(0, 1), 0);
        due("24 no life", o.of(0, 0), 0);
    }

    private static void goodTexts() {
        due("24 plain", does(new OrphanLogs(), "w0 5;"), 1);
        due("24 blanks", does(new OrphanLogs(), "  w  0   005  ;  r ; u;  "), 3);
        due("24 leading figures", does(new OrphanLogs(), "w002 999;"), 1);
        due("24 letter", does(new OrphanLogs(), "s2 001;g1 00;"), 2);
        due("24 last k", does(new OrphanLogs(), "g0 99;"), 0);
        OrphanLogs o = new OrphanLogs();
        due("24 once", does(o, "w0 5;w0 6;"), 2);
        due("24 text stays", o.does(), 2);
        due("24 twice", o.of(0, 1), 4);
        due("24 sum", o.of(0, 5), ((5 * 3 + 6) * 3 + 5) * 3 + 6);
    }

    private static void ordersAreDone() {
        OrphanLogs o = new OrphanLogs();
        due("24 all", does(o, "w0 7;w0 1;s0 1;s2 1;g1 1;o1;o0;g1 0;l0;l1;r;u;o2;"), 13);
        due("24 now", o.of(0, 1), 2);
        due("24 written", o.of(0, 2), 2);
        due("24 page of 1", o.of(1, 1), 2);
        due("24 rests", o.page(1, 2, 0, 3), 2);
        due("24 first came the second letter", o.of(1, 5), 22);
        due("24 released", o.told(8), 2);
        due("24 held", o.told(7), 1);
        due("24 order", o.released(0), 0);
        due("24 cut", o.of(0, 4), 2);
        due("24 cut", o.of(1, 4), 2);
        due("24 cut", o.of(2, 4), 0);
        due("24 letters", o.told(5), 0);
    }

    private static void lossOrders() {
        OrphanLogs o = new OrphanLogs();
        due("24 thrown away counts", does(o, "w0 7;o0;s0 1;x0;g1 0;g1 0;"), 5);
        due("24 life", o.of(0, 0), 1);
        due("24 went", o.told(9), 1);
        due("24 lost", o.saying(0, 2), 2);
        due("24 no page", o.of(1, 1), 0);
        for (int i = 0; i < 59; i++) o.loses(0);
        due("24 no more losses", does(o, "x0;x1;r;"), 1);
    }

    private static void ordersPassedOver() {
        OrphanLogs o = new OrphanLogs();
        due("24 no letter", does(o, "g0 0;w0 1;g1 5;"), 1);
        for (int i = 0; i < 22; i++) o.work(0, 1);
        due("24 full", does(o, "w0 1;w1 1;s1 0;g0 0;"), 2);
        due("24 the letter stays", o.of(0, 6), 1);
        for (int i = 0; i < 39; i++) o.send(0, 1);
        due("24 post is full", does(o, "s0 1;g1 0;s0 1;"), 2);
        for (int i = 0; i < 30; i++) o.says(0);
        due("24 no more sayings", does(o, "o0;o1;"), 0);
        due("25 passed over is not refused", o.told(1), 0);
        due("25 passed over is not refused", o.told(2), 0);
    }

    private static void longestText() {
        OrphanLogs o = new OrphanLogs();
        due("24 sixty orders", does(o, "r;".repeat(60)), 60);
        due("24 all blanks", does(o, " ".repeat(120)), -10 - 120);
        due("24 ends too early", does(o, "r;".repeat(59) + " r"), -10 - 120);
        due("24 figures", does(o, "w" + "0".repeat(119)), -10 - 1);
        due("24 trailing blanks", does(o, "r;" + " ".repeat(118)), 1);
    }

    private static void told() {
        OrphanLogs o = new OrphanLogs();
        o.clerks(4);
        o.work(9, 0);
        o.get(0, 0);
        o.page(0, 9, 0, 0);
        for (int i = 0; i < 24; i++) o.work(3, 0);
        o.says(3);
        o.says(0);
        o.says(0);
        o.release();
        o.says(3);
        o.send(0, 1);
        o.send(0, 2);
        o.type(65);
        o.type(65);
        o.type(65);
        o.loses(3);
        o.says(1);
        due("25 what", o.told(10), -2);
        due("25 what below", o.told(-1), -2);
        int[] want = {3, 2, 1, 3, 4, 2, 5, 1, 2, 23};
        for (int what = 0; what <= 9; what++) due("25 told " + what, o.told(what), want[what]);
    }

    private static long folded(long h, int... values) {
        for (int v : values) h = 31 * h + v;
        return h;
    }

    private static void digest() {
        OrphanLogs o = new OrphanLogs();
        long h = folded(2099, 0, 0, 0, 0, 3, 0, 0, 0, 0, 0);
        for (int c = 0; c < 3; c++) h = folded(h, 0, 0, 0, 0, 0, 0, 0, 0);
        due("26 new", o.digest(), h);
        o.clerks(2);
        o.work(0, 5);
        o.says(0);
        o.says(1);
        o.send(0, 1);
        o.release();
        o.work(0, -1);
        h = folded(2099, 1, 0, 0, 0, 2, 1, 2, 1, 1, 0);
        h = folded(h, 0, 1, 0, 0, 0, 5, 0, 1);
        h = folded(h, 0, 0, 0, 0, 0, 0, 1, 0);
        h = folded(h, 0, 1, 0, 0);
        h = folded(h, 1, 0, 1, 0);
        due("26 after calls", o.digest(), h);
        due("26 changes nothing", o.digest(), h);
    }
}
