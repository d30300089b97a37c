import java.util.List;
import java.util.Map;

/**
 * The bounds of promises 22 to 26 and of the text's terms: its length, its bytes, its numbers, every
 * fault by its place, what is passed over, and that by a fault nothing is done and nothing counts.
 */
final class TextsBoundsTest {
    private static final int BAD = Bounds.BAD, FULL = Bounds.FULL;
    private static final int LEAST = Bounds.LEAST, MOST = Bounds.MOST;
    private static final Bounds B = new Bounds("TextsBoundsTest");
    private static final List<States> STATES = States.all();
    private static final String SIGNS = "wsglxoru";

    public static void main(String[] args) {
        typeWithin();
        typeBad();
        typeFull();
        clearTheText();
        emptyText();
        faultAtASign();
        faultBehindAnOrderWithoutNumbers();
        faultAtANumber();
        faultBehindFigures();
        faultBehindANumber();
        faultByTheLastClerk();
        faultByWhatIsTold();
        faultByWhichLetter();
        faultByALetterToHimself();
        faultByFigures();
        blanksOnlyBetweenFigures();
        blanksAnywhereElse();
        otherBytesAreNoBlanks();
        endsTooEarly();
        firstFaultCounts();
        earlierTextsCountNot();
        faultChangesNothing();
        longestTexts();
        passedOverByFullPages();
        passedOverByFullPost();
        passedOverByNoLetter();
        passedOverByFullSayings();
        passedOverByLife60();
        ordersWithNothingToDo();
        allPagesBecomeWritten();
        cutOfAll();
        thrownAwayCountsAsDone();
        toldBad();
        toldTells();
        toldCountsEach();
        digestOfAll();
        B.close();
    }

    private static void bad(String label, States state, Story.Call call) {
        B.refused(label + " (" + state.name() + ")", state.story(), call, BAD);
    }

    private static void fault(Story story, String text, int place) {
        B.changesNothing("24 fault of '" + text + "'", story.typed(text), OrphanLogs::does, -10 - place);
    }

    private static void fault(String text, int place) {
        fault(new Story(), text, place);
    }

    private static void done(Story story, String text, int many) {
        B.answers("24 '" + text + "'", story.typed(text), OrphanLogs::does, many);
    }

    private static void done(String text, int many) {
        done(new Story(), text, many);
    }

    // ---- 22 and 23

    private static void typeWithin() {
        for (int c : new int[] {0, 1, 32, 126, 127}) {
            B.answers("22 type " + c, new Story(), o -> o.type(c), 1);
            B.answers("22 it is behind the text", new Story().typed("r;").then(o -> o.type(c)), o -> o.told(3), 3);
        }
    }

    private static void typeBad() {
        for (States s : STATES) {
            for (int c : new int[] {-1, 128, 255, 256, 288, LEAST, MOST}) bad("22 type " + c, s, o -> o.type(c));
        }
    }

    private static void typeFull() {
        Story story = new Story().typed("r;".repeat(59) + "r");
        B.answers("22 the 120th", story, o -> o.type(';'), 120);
        Story full = story.typed(";");
        B.refused("22 no 121st", full, o -> o.type(';'), FULL);
        B.refused("22 BAD comes ahead of FULL", full, o -> o.type(128), BAD);
        B.answers("22 the text is what it was", full.then(o -> o.type('q')), OrphanLogs::does, 60);
        B.answers("22 room again", full.then(OrphanLogs::clear), o -> o.type(';'), 1);
    }

    private static void clearTheText() {
        B.changesNothing("23 an empty one", new Story(), OrphanLogs::clear, 0);
        B.answers("23 one byte", new Story().typed("r"), OrphanLogs::clear, 1);
        B.answers("23 119", new Story().typed(" ".repeat(119)), OrphanLogs::clear, 119);
        B.answers("23 120", new Story().typed(" ".repeat(120)), OrphanLogs::clear, 120);
        for (States s : STATES) {
            Story cleared = s.story().then(OrphanLogs::clear);
            B.sameBut("23 the text alone (" + s.name() + ")", s.story(), cleared, Map.of("told(3)", 0L));
            B.changesNothing("23 it is empty", cleared, OrphanLogs::does, -10);
        }
        B.answers("23 nothing of it is left", new Story().typed("w0 5;w0 5;").then(OrphanLogs::clear).typed("r;"), OrphanLogs::does, 1);
    }

    // ---- 24, faults

    private static void emptyText() {
        for (States s : STATES) B.changesNothing("24 an empty one", s.story().then(OrphanLogs::clear), OrphanLogs::does, -10);
        for (int blanks = 1; blanks <= 3; blanks++) fault(" ".repeat(blanks), blanks);
    }

    private static boolean isFigure(int b) {
        return b >= '0' && b <= '9';
    }

    private static void faultAtASign() {
        for (int b = 0; b <= 127; b++) {
            boolean stands = b == ' ' || SIGNS.indexOf(b) >= 0;
            fault("" + (char) b, stands ? 1 : 0);
            fault("r;" + (char) b, stands && b != ' ' ? 3 : 2, b == ' ');
        }
    }

    /** A text that is good after all is done. */
    private static void fault(String text, int place, boolean good) {
        if (good) done(text, 1);
        else fault(text, place);
    }

    private static void faultBehindAnOrderWithoutNumbers() {
        for (int b = 0; b <= 127; b++) {
            fault("r" + (char) b, b == ' ' ? 2 : 1, b == ';');
            fault("u" + (char) b, b == ' ' ? 2 : 1, b == ';');
        }
    }

    /** With three clerks; whatever comes behind 3 .. 9, the fault is their place. */
    private static void faultAtANumber() {
        for (int b = 0; b <= 127; b++) {
            boolean stands = b == ' ' || b >= '0' && b <= '2';
            for (String sign : new String[] {"w", "s", "g", "l", "x", "o"}) fault(sign + (char) b, stands ? 2 : 1);
        }
    }

    private static void faultBehindFigures() {
        for (int b = 0; b <= 127; b++) {
            int ofFigure = b <= '2' ? 3 : 1;
            fault("o0" + (char) b, isFigure(b) ? ofFigure : b == ' ' ? 3 : 2, b == ';');
            fault("w0" + (char) b, isFigure(b) ? ofFigure : b == ' ' ? 3 : 2);
            fault("w0 5" + (char) b, isFigure(b) || b == ' ' ? 5 : 4, b == ';');
            fault("w0 500" + (char) b, isFigure(b) ? 3 : b == ' ' ? 7 : 6, b == ';');
            if (b != ';') fault("g0 50" + (char) b, isFigure(b) ? 3 : b == ' ' ? 6 : 5);
        }
    }

    private static void faultBehindANumber() {
        for (int b = 0; b <= 127; b++) {
            fault("o0 " + (char) b, b == ' ' ? 4 : 3, b == ';');
            fault("w0 5 " + (char) b, b == ' ' ? 6 : 5, b == ';');
        }
        fault("w0;", 2);
        fault("w;", 1);
        fault("w ;", 2);
        fault("r0;", 1);
        fault("r 0;", 2);
        fault("l0 0;", 3);
        fault("s0 1 2;", 5);
        fault("w0 5", 4);
        fault("w0 5w0 5;", 4);
    }

    private static void faultByTheLastClerk() {
        for (int n = 2; n <= 5; n++) {
            Story story = States.begun(n);
            int last = n - 1;
            done(story, "w" + last + " 0;", 1);
            fault(story, "w" + n + " 0;", 1);
            done(story, "s" + last + " 0;", 1);
            fault(story, "s" + n + " 0;", 1);
            done(story, "s0 " + last + ";", 1);
            fault(story, "s0 " + n + ";", 3);
            done(story, "g" + last + " 0;", 0);
            fault(story, "g" + n + " 0;", 1);
            for (String sign : new String[] {"l", "x", "o"}) {
                done(story, sign + last + ";", 1);
                done(story, sign + "00" + last + ";", 1);
                fault(story, sign + n + ";", 1);
                fault(story, sign + "00" + n + ";", 1);
                fault(story, sign + "999;", 1);
            }
        }
    }

    private static void faultByWhatIsTold() {
        done("w0 0;", 1);
        done("w0 999;", 1);
        B.answers("24 told 999", new Story().typed("w0 999;").then(OrphanLogs::does), o -> o.of(0, 5), 999);
        fault("w0 1000;", 3);
        fault("w0 9999;", 3);
        fault("w0 -1;", 3);
    }

    private static void faultByWhichLetter() {
        done("g0 0;", 0);
        done("g0 99;", 0);
        done("g0 099;", 0);
        fault("g0 100;", 3);
        fault("g0 999;", 3);
        fault("g0 1000;", 3);
        Story forty = new Story().times(38, o -> o.send(2, 0)).then(o -> o.work(1, 7), o -> o.send(1, 0));
        done(forty, "g0 38;", 1);
        done(forty, "g0 39;", 0);
        B.answers("24 the 39th came", forty.typed("g0 38;").then(OrphanLogs::does), o -> o.of(0, 5), 7);
    }

    private static void faultByALetterToHimself() {
        for (int n = 2; n <= 5; n++) {
            for (int c = 0; c < n; c++) {
                for (int d = 0; d < n; d++) {
                    if (c == d) fault(States.begun(n), "s" + c + " " + d + ";", 3);
                    else done(States.begun(n), "s" + c + " " + d + ";", 1);
                }
            }
        }
        fault("s1 01;", 3);
        fault("s01  001;", 5);
        fault("s1 1", 3);
        done("g1 1;", 0);
        done("w1 1;", 1);
    }

    private static void faultByFigures() {
        done("w000 000;", 1);
        done("w002 005;", 1);
        fault("w0000 5;", 1);
        fault("w 0000 5;", 2);
        fault("w0 0000;", 3);
        fault("w0  0005;", 4);
        fault("o0001;", 1);
        fault("g0 0000;", 3);
        fault("s0 0001;", 3);
        fault("w0 00000000000000000005;", 3);
        fault("w0 4294967301;", 3);
        fault("w4294967296 5;", 1);
        fault("w0 0000", 3);
    }

    /** Without the blank two numbers are one. */
    private static void blanksOnlyBetweenFigures() {
        done("w0 5;", 1);
        fault("w05;", 1);
        fault("w01;", 3);
        fault("s01;", 3);
        fault("s10;", 1);
        fault("w0 5 5;", 5);
        fault("o0 0;", 3);
        done("w0 5;s0 1;g1 0;l0;x1;o0;r;u;", 8);
    }

    private static void blanksAnywhereElse() {
        done("   w   0   5   ;   s  0  1 ;  g  1  0  ; l 0 ; x 1 ; o 0 ; r ; u ; ", 8);
        done(" r;", 1);
        done("r ;", 1);
        done("r; ", 1);
        done("r;  u;", 2);
        fault("r u;", 2);
        fault("r; ;", 3);
        fault("r;;", 2);
        fault(" ;", 1);
    }

    private static void otherBytesAreNoBlanks() {
        for (int b : new int[] {0, 9, 10, 13, 31, 33, 127}) {
            fault((char) b + "r;", 0);
            fault("r" + (char) b + ";", 1);
            fault("w0" + (char) b + "5;", 2);
            fault("r;" + (char) b, 2);
        }
        for (int i = 0; i < SIGNS.length(); i++) fault(("" + SIGNS.charAt(i)).toUpperCase() + "0 1;", 0);
    }

    /** Every beginning of a good text that does not end an order ends too early. */
    private static void endsTooEarly() {
        String text = "w 2 999 ;s1 002;g  2 99; l 0;x01;o0 ;r; u ;";
        int orders = 0;
        for (int length = 0; length <= text.length(); length++) {
            String begun = text.substring(0, length);
            if (begun.endsWith(";")) orders++;
            boolean ended = begun.stripTrailing().endsWith(";");
            // The second order's letter stays on its way: there is no hundredth letter.
            if (ended) done(begun, orders > 2 ? orders - 1 : orders);
            else fault(begun, length);
        }
        B.due("24 all orders were met", orders, 8);
    }

    private static void firstFaultCounts() {
        fault("w3 1000;", 1);
        fault("s3 3;", 1);
        fault("w0 1000;q;", 3);
        fault("r;q;w3 5;", 2);
        fault("w0 5;w0 5;w0 5;w9", 16);
        fault("w0 5;o0;x3;r", 9);
    }

    /** What was read before, with or without a fault, is not done again. */
    private static void earlierTextsCountNot() {
        Story faulty = new Story().typed("w0 5;w0 5;q").then(OrphanLogs::does, OrphanLogs::clear);
        done(faulty, "w0 5;", 1);
        B.answers("24 one page", faulty.typed("w0 5;").then(OrphanLogs::does), o -> o.of(0, 1), 1);
        fault(faulty, "", 0);
        Story good = new Story().typed("w0 5;w0 5;").then(OrphanLogs::does);
        B.answers("24 the text stays", good, o -> o.told(3), 10);
        B.answers("24 done again", good, OrphanLogs::does, 2);
        B.answers("24 four pages", good.then(OrphanLogs::does), o -> o.of(0, 1), 4);
        done(good.then(OrphanLogs::clear), "o0;", 1);
        fault(good, "w", 11);
    }

    private static void faultChangesNothing() {
        for (States s : STATES) {
            Story story = s.story().then(OrphanLogs::clear);
            fault(story, "w0 5;s0 1;g1 0;l0;o0;r;u;x0;q", 28);
            fault(story, "w0 5;s0 1;g1 0;l0;o0;r;u;x0", 27);
            fault(story, "x0;x1;x9;", 7);
            fault(story, "g0 0;g0 99;w0 1000;", 14);
        }
    }

    // ---- 24, long texts and what is passed over

    private static void longestTexts() {
        done("r;".repeat(60), 60);
        done("r;".repeat(59) + "u;", 60);
        fault("r;".repeat(59) + "rr", 119);
        fault("r;".repeat(59) + " r", 120);
        fault(" ".repeat(120), 120);
        fault(" ".repeat(119) + "r", 120);
        fault(" ".repeat(119) + "q", 119);
        done(" ".repeat(118) + "r;", 1);
        done("r;" + " ".repeat(118), 1);
        fault("w" + " ".repeat(119), 120);
        fault("w0 " + "0".repeat(117), 3);
        done("w0 1;".repeat(23) + "w0 5;", 23);
    }

    private static void passedOverByFullPages() {
        Story story = new Story().times(22, o -> o.work(0, 1)).then(o -> o.send(1, 0), o -> o.send(1, 0));
        done(story, "w0 1;", 1);
        done(story, "w0 1;w0 1;", 1);
        done(story, "g0 0;g0 0;", 1);
        done(story, "w0 1;w0 1;w1 1;", 2);
        B.answers("24 the letter stays", story.typed("w0 1;g0 0;").then(OrphanLogs::does), o -> o.of(0, 6), 2);
    }

    private static void passedOverByFullPost() {
        Story story = new Story().times(39, o -> o.send(0, 1));
        done(story, "s0 1;", 1);
        done(story, "s0 1;s0 1;", 1);
        done(story, "s0 1;s2 1;g1 0;s0 2;s0 2;", 3);
        B.answers("24 forty at most", story.typed("s0 1;s0 1;").then(OrphanLogs::does), o -> o.told(5), 40);
    }

    private static void passedOverByNoLetter() {
        Story story = new Story().then(o -> o.send(0, 1));
        done(story, "g1 0;", 1);
        done(story, "g1 1;", 0);
        done(story, "g1 0;g1 0;", 1);
        done(story, "g2 0;", 0);
    }

    private static void passedOverByFullSayings() {
        Story story = new Story().times(29, o -> o.says(0));
        done(story, "o0;", 1);
        done(story, "o0;o1;", 1);
        done(story, "r;o0;o1;", 2);
        B.answers("24 thirty at most", story.typed("o0;o1;").then(OrphanLogs::does), o -> o.told(6), 30);
    }

    private static void passedOverByLife60() {
        Story story = new Story().times(59, o -> o.loses(1));
        done(story, "x1;", 1);
        done(story, "x1;x1;", 1);
        done(story, "x1;x0;r;", 2);
        done(story, "x0;x0;", 2);
        B.answers("24 life 60 at most", story.typed("x1;x1;").then(OrphanLogs::does), o -> o.of(1, 0), 60);
    }

    private static void ordersWithNothingToDo() {
        done("l0;", 1);
        done("r;", 1);
        done("u;", 1);
        done("x2;", 1);
        B.answers("24 a loss of nothing is a loss", new Story().typed("x2;").then(OrphanLogs::does), o -> o.of(2, 0), 1);
    }

    private static void allPagesBecomeWritten() {
        Story story = new Story().times(23, o -> o.work(1, 1));
        B.answers("24 all 23", story.typed("l1;").then(OrphanLogs::does), o -> o.of(1, 2), 23);
        B.answers("24 of no other", story.then(o -> o.work(0, 1)).typed("l1;").then(OrphanLogs::does), o -> o.of(0, 2), 0);
    }

    private static void cutOfAll() {
        for (int n = 2; n <= 5; n++) {
            Story story = States.begun(n);
            for (int c = 0; c < n; c++) {
                int d = c;
                story = story.times(d + 1, o -> o.work(d, 1)).then(o -> o.writes(d, 24));
            }
            Story cut = story.typed("u;").then(OrphanLogs::does);
            for (int c = 0; c < n; c++) {
                int d = c;
                B.answers("24 cut of all", cut, o -> o.of(d, 4), d + 1);
            }
        }
    }

    private static void thrownAwayCountsAsDone() {
        Story story = new Story().then(o -> o.work(0, 1), o -> o.send(0, 1), o -> o.loses(0));
        done(story, "g1 0;", 1);
        done(story, "g1 0;g1 0;", 1);
        B.answers("24 it is gone", story.typed("g1 0;").then(OrphanLogs::does), o -> o.told(5), 0);
        done(story.times(23, o -> o.work(1, 1)), "g1 0;", 1);
    }

    // ---- 25 and 26

    private static void toldBad() {
        for (States s : STATES) {
            for (int what : new int[] {-1, 10, LEAST, MOST}) bad("25 told " + what, s, o -> o.told(what));
        }
    }

    private static void toldTells() {
        int[] due = {1, 1, 0, States.BUSY_TEXT.length(), 5, 3, 4, 2, 1, 1};
        for (int what = 0; what <= 9; what++) {
            int w = what;
            B.changesNothing("25 told " + w, States.busy(5), o -> o.told(w), due[w]);
        }
    }

    private static void toldCountsEach() {
        OrphanLogs o = States.full(3).tell();
        o.work(0, -1);
        o.get(2, 0);
        o.get(2, 0);
        o.send(0, 1);
        o.says(0);
        o.type('r');
        int[] counts = {1, 2, 3};
        for (int what = 0; what <= 2; what++) B.due("25 told " + what, o.told(what), counts[what]);
        o.letter(2, 0, 0);
        o.saying(30, 0);
        o.released(0);
        o.end(0, 0);
        for (int what = 0; what <= 2; what++) B.due("25 NONE is not counted", o.told(what), counts[what]);
    }

    private static void digestOfAll() {
        for (States s : STATES) {
            OrphanLogs o = s.story().tell();
            long h = 2099;
            for (int what = 0; what <= 9; what++) h = 31 * h + o.told(what);
            for (int c = 0; c < s.n(); c++) {
                for (int what = 0; what <= 7; what++) h = 31 * h + o.of(c, what);
            }
            for (int k = 0; k < o.told(6); k++) {
                for (int what = 0; what <= 3; what++) h = 31 * h + o.saying(k, what);
            }
            B.changesNothing("26 digest (" + s.name() + ")", s.story(), OrphanLogs::digest, h);
        }
    }
}
