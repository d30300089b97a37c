import java.util.Random;

/** Runs of drawn calls on the program and on the model side by side; all answers are compared. */
final class ModelTest {
    private static final int RUNS = 4000, CALLS = 512;
    private static final String SIGNS = "wsglxoru;  0123459;;";
    private final Check check;
    private final Random random;
    private final OrphanLogs program = new OrphanLogs();
    private final Model model = new Model();
    private final int run;

    private ModelTest(Check check, int run) {
        this.check = check;
        this.run = run;
        this.random = new Random(run);
    }

    public static void main(String[] args) {
        Check check = new Check("ModelTest");
        for (int run = 0; run < RUNS && check.isClean(); run++) new ModelTest(check, run).goOn();
        check.close();
    }

    private void same(String call, long got, long want) {
        check.due("run " + run + ": " + call, got, want);
    }

    private int any(int bound) {
        return random.nextInt(bound);
    }

    /** A clerk, at times a wrong one. */
    private int clerk() {
        int odd = any(60);
        return odd == 0 ? -1 : odd == 1 ? model.n : odd == 2 ? 5 : any(model.n);
    }

    private int number(int bound) {
        int odd = any(40);
        return odd == 0 ? -1 : odd == 1 ? bound : odd == 2 ? Integer.MAX_VALUE : odd == 3 ? Integer.MIN_VALUE : any(bound);
    }

    private void goOn() {
        int losses = any(4);
        if (any(2) == 0) {
            int v = 2 + any(4);
            same("clerks", program.clerks(v), model.clerks(v));
        }
        int calls = 1;
        while (calls < CALLS - 60 && check.isClean()) calls += step(losses);
        lookAtAll();
        check.holds("run " + run + ": the model is sound", model.isSound());
    }

    private int step(int losses) {
        int kind = any(100);
        if (kind < 58) change(kind, losses);
        else if (kind < 61) return typeText();
        else if (kind < 62 && any(12) == 0) restart();
        else look(kind);
        if (any(4) == 0) same("digest", program.digest(), model.digest());
        return 2;
    }

    private void change(int kind, int losses) {
        int c = clerk();
        if (kind < 16) {
            int x = number(1000);
            same("work", program.work(c, x), model.work(c, x));
        } else if (kind < 28) {
            int d = any(8) == 0 ? c : clerk();
            same("send", program.send(c, d), model.send(c, d));
        } else if (kind < 40) {
            int k = any(3) == 0 ? number(5) : 0;
            same("get", program.get(c, k), model.get(c, k));
        } else if (kind < 46) {
            int m = any(10) == 0 ? number(26) : 1 + any(3);
            same("writes", program.writes(c, m), model.writes(c, m));
        } else if (kind < 49) {
            if (any(4) <= losses) same("loses", program.loses(c), model.loses(c));
        } else if (kind < 54) {
            same("says", program.says(c), model.says(c));
        } else if (kind < 55) {
            same("release", program.release(), model.release());
        } else if (kind < 56) {
            same("cuts", program.cuts(c), model.cuts(c));
        } else if (any(6) == 0) {
            same("sweeps", program.sweeps(), model.sweeps());
        }
    }

    private void restart() {
        if (any(2) == 0) {
            int v = number(7);
            same("clerks", program.clerks(v), model.clerks(v));
        } else {
            int seed = number(1000000);
            int m = number(61);
            same("draw", program.draw(seed, m), model.draw(seed, m));
        }
    }

    private void look(int kind) {
        int c = clerk();
        int k = number(26);
        int what = number(10);
        switch (kind % 12) {
            case 0 -> same("of", program.of(c, what), model.of(c, what));
            case 1 -> {
                int d = clerk();
                int w = number(4);
                same("page", program.page(c, k, d, w), model.page(c, k, d, w));
            }
            case 2 -> {
                int l = any(2) == 0 ? number(100) : number(4);
                same("dead", program.dead(c, l, k), model.dead(c, l, k));
            }
            case 3 -> {
                int l = number(100);
                same("end", program.end(c, l), model.end(c, l));
            }
            case 4 -> same("letter", program.letter(c, k % 4, what % 5), model.letter(c, k % 4, what % 5));
            case 5 -> same("saying", program.saying(k, what % 5), model.saying(k, what % 5));
            case 6 -> same("released", program.released(k), model.released(k));
            case 7 -> same("would", program.would(c, what % 4), model.would(c, what % 4));
            case 8 -> same("worst", program.worst(what % 3), model.worst(what % 3));
            case 9 -> same("told", program.told(what), model.told(what));
            case 10 -> same("does", program.does(), model.does());
            default -> {
                int b = number(128);
                same("type", program.type(b), model.type(b));
            }
        }
    }

    private int typeText() {
        StringBuilder text = new StringBuilder();
        int orders = 1 + any(6);
        boolean noise = any(5) == 0;
        for (int i = 0; i < orders; i++) text.append(noise ? noise() : order());
        if (any(6) == 0 && text.length() > 0) text.setLength(any(text.length()));
        if (any(3) > 0) same("clear", program.clear(), model.clear());
        for (int i = 0; i < text.length(); i++) {
            same("type", program.type(text.charAt(i)), model.type(text.charAt(i)));
        }
        same("does " + text, program.does(), model.does());
        same("digest", program.digest(), model.digest());
        return text.length() + 3;
    }

    private String noise() {
        StringBuilder some = new StringBuilder();
        for (int i = any(6); i >= 0; i--) some.append(SIGNS.charAt(any(SIGNS.length())));
        return some.toString();
    }

    private String order() {
        String blank = any(4) == 0 ? " " : "";
        int c = any(30) == 0 ? any(12) : any(model.n);
        int d = any(30) == 0 ? any(12) : (c + 1) % model.n;
        String end = blank + ";" + (any(5) == 0 ? "  " : "");
        return blank + switch (any(9)) {
            case 0, 1 -> "w" + blank + c + " " + any(any(10) == 0 ? 10000 : 1000) + end;
            case 2, 3 -> "s" + blank + c + " " + d + end;
            case 4, 5 -> "g" + c + " " + (any(10) == 0 ? any(120) : any(2)) + end;
            case 6 -> "l" + c + end;
            case 7 -> (any(2) == 0 ? "o" : "x") + c + end;
            default -> (any(2) == 0 ? "r" : "u") + end;
        };
    }

    private void lookAtAll() {
        for (int c = 0; c < model.n; c++) {
            for (int w = 0; w < 3; w++) same("would", program.would(c, w), model.would(c, w));
            for (int k = 0; k < 25; k++) {
                for (int d = 0; d < model.n; d++) {
                    for (int w = 0; w < 4; w++) same("page", program.page(c, k, d, w), model.page(c, k, d, w));
                }
            }
            for (int k = 0; k < 41; k++) {
                for (int w = 0; w < 4; w++) same("letter", program.letter(c, k, w), model.letter(c, k, w));
            }
            for (int l = 0; l < 65; l++) same("end", program.end(c, l), model.end(c, l));
        }
        for (int k = 0; k < 31; k++) same("released", program.released(k), model.released(k));
        same("digest", program.digest(), model.digest());
    }
}
