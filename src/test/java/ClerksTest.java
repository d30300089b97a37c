/** Promises 1 to 12: clerks, their pages, losses and what is drawn. */
final class ClerksTest {
    private static final Check CHECK = new Check("ClerksTest");

    private static void due(String call, long got, long want) {
        CHECK.due(call, got, want);
    }

    public static void main(String[] args) {
        newObject();
        clerks();
        clerksBeginsAnew();
        work();
        workIsFull();
        send();
        get();
        getTakesTheLaterRest();
        getOfDeadAndFull();
        writes();
        loses();
        lossTearsOutWrittenPages();
        lossSparesWhatDoesNotRestOnIt();
        losesIsFull();
        draw();
        drawStepByStep();
        of();
        page();
        deadAndEnd();
        CHECK.close();
    }

    private static void newObject() {
        OrphanLogs o = new OrphanLogs();
        for (int what = 0; what <= 9; what++) due("1 told", o.told(what), what == 4 ? 3 : 0);
        for (int c = 0; c < 3; c++) {
            for (int what = 0; what <= 7; what++) due("1 of", o.of(c, what), 0);
            for (int d = 0; d < 3; d++) {
                for (int what = 0; what <= 3; what++) due("1 page", o.page(c, 0, d, what), 0);
            }
        }
        due("1 no clerk 3", o.of(3, 0), OrphanLogs.BAD);
        due("1 NONE", OrphanLogs.NONE, -1);
        due("1 BAD", OrphanLogs.BAD, -2);
        due("1 NO", OrphanLogs.NO, -3);
        due("1 FULL", OrphanLogs.FULL, -4);
    }

    private static void clerks() {
        OrphanLogs o = new OrphanLogs();
        due("2 two", o.clerks(2), 3);
        due("2 five", o.clerks(5), 2);
        due("2 again", o.clerks(5), 5);
        due("2 below", o.clerks(1), -2);
        due("2 above", o.clerks(6), -2);
        due("2 far", o.clerks(Integer.MIN_VALUE), -2);
        due("2 n stays", o.told(4), 5);
        due("2 counts", o.told(0), 3);
        due("2 last clerk", o.work(4, 1), 1);
    }

    private static void clerksBeginsAnew() {
        OrphanLogs o = new OrphanLogs();
        o.type('r');
        o.work(0, 3);
        o.send(0, 1);
        o.says(0);
        o.says(1);
        o.release();
        o.get(2, 0);
        o.loses(0);
        o.work(0, 4);
        o.writes(0, 1);
        due("2 cut", o.cuts(0), 1);
        due("2 what it was", o.clerks(3), 3);
        for (int what = 0; what <= 9; what++) {
            due("2 told " + what, o.told(what), what == 1 ? 1 : what == 3 ? 1 : what == 4 ? 3 : 0);
        }
        for (int what = 0; what <= 7; what++) due("2 of", o.of(0, what), 0);
        due("2 end", o.end(0, 0), -1);
        due("2 released", o.released(0), -1);
        due("2 page", o.page(0, 1, 0, 0), -3);
    }

    private static void work() {
        OrphanLogs o = new OrphanLogs();
        due("3 first", o.work(0, 999), 1);
        due("3 sum", o.of(0, 5), 999);
        due("3 second", o.work(0, 0), 2);
        due("3 sum", o.of(0, 5), 2997);
        due("3 other", o.work(1, 5), 1);
        due("3 x above", o.work(0, 1000), -2);
        due("3 x below", o.work(0, -1), -2);
        due("3 c above", o.work(3, 0), -2);
        due("3 c below", o.work(-1, 0), -2);
        due("3 nothing changed", o.of(0, 1), 2);
        due("3 own page", o.page(0, 2, 0, 3), 2);
        due("3 of others", o.page(0, 2, 1, 3), 0);
        for (int i = 3; i <= 9; i++) o.work(0, 999);
        long sum = 2997;
        for (int i = 3; i <= 9; i++) sum = (sum * 3 + 999) % 1000003;
        due("3 left over", o.of(0, 5), sum);
    }

    private static void workIsFull() {
        OrphanLogs o = new OrphanLogs();
        for (int k = 1; k <= 23; k++) due("3 page", o.work(0, k), k);
        due("3 full", o.work(0, 0), -4);
        due("3 bad before full", o.work(0, 1000), -2);
        due("3 counted", o.told(2), 1);
        o.writes(0, 24);
        due("3 cut", o.cuts(0), 23);
        due("3 cut ones count", o.work(0, 0), -4);
        due("3 the other is not", o.work(1, 0), 1);
    }

    private static void send() {
        OrphanLogs o = new OrphanLogs();
        o.work(0, 7);
        due("4 first", o.send(0, 1), 1);
        due("4 no new page", o.of(0, 1), 1);
        due("4 to himself", o.send(1, 1), -2);
        due("4 c", o.send(-1, 1), -2);
        due("4 c above", o.send(3, 1), -2);
        due("4 d", o.send(0, 3), -2);
        due("4 d below", o.send(0, -1), -2);
        for (int i = 2; i <= 40; i++) due("4 more", o.send(i % 2, 2), i);
        due("4 full", o.send(0, 1), -4);
        due("4 bad before full", o.send(0, 0), -2);
        due("4 on their way", o.told(5), 40);
        due("4 counted", o.told(2), 1);
        o.get(1, 0);
        due("4 again", o.send(0, 1), 40);
    }

    private static void get() {
        OrphanLogs o = new OrphanLogs();
        o.work(0, 5);
        o.send(0, 1);
        o.work(0, 1);
        o.send(0, 1);
        o.send(2, 0);
        due("5 d", o.get(3, 0), -2);
        due("5 d below", o.get(-1, 0), -2);
        due("5 k", o.get(1, -1), -2);
        due("5 not so many", o.get(1, 2), -3);
        due("5 far", o.get(1, Integer.MAX_VALUE), -3);
        due("5 none to him", o.get(2, 0), -3);
        due("5 the second", o.get(1, 1), 1);
        due("5 told its sum", o.of(1, 5), 16);
        due("5 rests on page", o.page(1, 1, 0, 3), 2);
        due("5 the first", o.get(1, 0), 2);
        due("5 sum", o.of(1, 5), 16 * 3 + 5);
        due("5 the later rest stays", o.page(1, 2, 0, 3), 2);
        due("5 own", o.page(1, 2, 1, 3), 2);
        due("5 still to come", o.told(5), 1);
        due("5 no", o.told(1), 3);
    }

    /** The later rest stays in whichever order letters come; what one knows of its receiver is not taken. */
    private static void getTakesTheLaterRest() {
        OrphanLogs o = new OrphanLogs();
        for (int i = 0; i < 5; i++) o.work(0, 1);
        o.writes(0, 4);
        o.loses(0);
        o.work(0, 2);
        o.send(0, 1);
        o.get(1, 0);
        due("5 life", o.page(1, 1, 0, 2), 1);
        due("5 page", o.page(1, 1, 0, 3), 5);
        o.send(1, 0);
        due("5 back", o.get(0, 0), 6);
        due("5 own life", o.page(0, 6, 0, 2), 1);
        due("5 own page", o.page(0, 6, 0, 3), 6);
        due("5 of 1", o.page(0, 6, 1, 3), 1);
        o.work(0, 1);
        o.send(1, 2);
        o.send(0, 2);
        due("5 from 0 first", o.get(2, 1), 1);
        due("5 knows 0", o.page(2, 1, 0, 3), 7);
        due("5 then from 1", o.get(2, 0), 2);
        due("5 keeps 0", o.page(2, 2, 0, 3), 7);
        due("5 keeps 1", o.page(2, 2, 1, 3), 1);
    }

    private static void getOfDeadAndFull() {
        OrphanLogs o = new OrphanLogs();
        o.work(0, 5);
        o.send(0, 1);
        o.loses(0);
        o.send(0, 1);
        for (int k = 1; k <= 23; k++) o.work(1, 0);
        due("5 full", o.get(1, 1), -4);
        due("5 it stays", o.of(1, 6), 2);
        due("5 thrown away though full", o.get(1, 0), -1);
        due("5 it went", o.of(1, 6), 1);
        due("5 full again", o.get(1, 0), -4);
        due("5 NONE is no refusal", o.told(2), 2);
        due("5 no page came", o.of(1, 1), 23);
    }

    private static void writes() {
        OrphanLogs o = new OrphanLogs();
        due("6 nothing more", o.writes(0, 24), 0);
        for (int i = 0; i < 5; i++) o.work(0, 1);
        due("6 one", o.writes(0, 1), 1);
        due("6 two", o.writes(0, 2), 3);
        due("6 at most now", o.writes(0, 24), 5);
        due("6 of", o.of(0, 2), 5);
        due("6 m 0", o.writes(0, 0), -2);
        due("6 m 25", o.writes(0, 25), -2);
        due("6 m far", o.writes(0, Integer.MAX_VALUE), -2);
        due("6 c", o.writes(3, 1), -2);
        due("6 c below", o.writes(-1, 1), -2);
    }

    private static void loses() {
        OrphanLogs o = new OrphanLogs();
        due("7 c", o.loses(3), -2);
        due("7 c below", o.loses(-1), -2);
        due("7 nothing to lose", o.loses(0), 0);
        due("7 a new life", o.of(0, 0), 1);
        o.work(0, 5);
        o.work(0, 6);
        o.writes(0, 1);
        o.send(0, 1);
        o.get(1, 0);
        due("7 goes", o.loses(0), 2);
        due("7 now", o.of(0, 1), 1);
        due("7 life", o.of(0, 0), 2);
        due("7 life of 1", o.of(1, 0), 1);
        due("7 life of 2", o.of(2, 0), 0);
        due("7 the page keeps its life", o.page(0, 1, 0, 0), 1);
        due("7 new page", o.work(0, 9), 2);
        due("7 of the new life", o.page(0, 2, 0, 0), 2);
        due("7 rest of the new life", o.page(0, 2, 0, 2), 2);
        due("7 its sum", o.page(0, 2, 0, 1), 5 * 3 + 9);
        due("7 went in all", o.told(9), 2);
        due("7 more", o.loses(0), 1);
        due("7 went in all", o.told(9), 3);
    }

    private static void lossTearsOutWrittenPages() {
        OrphanLogs o = new OrphanLogs();
        o.work(2, 1);
        o.send(2, 1);
        o.work(1, 1);
        o.get(1, 0);
        o.work(1, 2);
        o.writes(1, 24);
        o.send(1, 0);
        o.get(0, 0);
        o.says(0);
        o.says(1);
        due("7 written ones, too", o.loses(2), 4);
        due("7 written of 1", o.of(1, 2), 1);
        due("7 now of 1", o.of(1, 1), 1);
        due("7 now of 0", o.of(0, 1), 0);
        due("7 end of 1", o.end(1, 0), 1);
        due("7 end of 0", o.end(0, 0), 0);
        due("7 end of 2", o.end(2, 0), 0);
        due("7 lost", o.saying(0, 2), 2);
        due("7 lost", o.saying(1, 2), 2);
        due("7 none held", o.told(7), 0);
    }

    private static void lossSparesWhatDoesNotRestOnIt() {
        OrphanLogs o = new OrphanLogs();
        o.clerks(4);
        o.work(0, 1);
        o.send(0, 1);
        o.work(0, 2);
        o.send(0, 2);
        o.writes(0, 1);
        o.get(1, 0);
        o.get(2, 0);
        o.work(3, 1);
        due("7 one of 0, one of 2", o.loses(0), 2);
        due("7 1 stays", o.of(1, 1), 1);
        due("7 1 lives on", o.of(1, 0), 0);
        due("7 2 falls", o.of(2, 1), 0);
        due("7 3 stays", o.of(3, 1), 1);
        due("7 1 loses alone", o.loses(1), 1);
        due("7 0 lives on", o.of(0, 0), 1);
    }

    private static void losesIsFull() {
        OrphanLogs o = new OrphanLogs();
        for (int l = 0; l < 60; l++) due("7 loss " + l, o.loses(1), 0);
        due("7 life", o.of(1, 0), 60);
        due("7 full", o.loses(1), -4);
        due("7 for all", o.loses(0), -4);
        due("7 bad first", o.loses(3), -2);
        due("7 counted", o.told(2), 2);
        due("7 life stays", o.of(1, 0), 60);
        due("7 the last end", o.end(1, 59), 0);
        due("7 not over", o.end(1, 60), -1);
        o.work(1, 1);
        due("20 tells of a loss all the same", o.would(1, 0), 1);
        due("20 and of lives", o.would(1, 1), 1);
    }

    private static void draw() {
        OrphanLogs o = new OrphanLogs();
        due("8 seed below", o.draw(-1, 1), -2);
        due("8 seed above", o.draw(1000000, 1), -2);
        due("8 m below", o.draw(0, 0), -2);
        due("8 m above", o.draw(0, 61), -2);
        due("8 counted", o.told(0), 4);
        o.type('r');
        o.clerks(5);
        o.loses(0);
        due("8 drawn", o.draw(7, 60), 47);
        due("8 refused ones as they are", o.told(0), 4);
        due("8 no", o.told(1), 0);
        due("8 text", o.told(3), 1);
        due("8 n", o.told(4), 5);
        due("8 as at first", o.of(0, 0), 0);
        long once = o.digest();
        o.work(0, 1);
        due("8 the same", o.draw(7, 60), 47);
        due("8 the same", o.digest(), once);
        CHECK.holds("8 last seed", o.draw(999999, 60) > 0);
        CHECK.holds("8 another", o.digest() != once);
        CHECK.holds("8 first seed, one thing", o.draw(0, 1) >= 0);
    }

    /** The drawn things done by hand are the same state. */
    private static void drawStepByStep() {
        for (int n = 2; n <= 5; n++) {
            for (int seed = 0; seed < 1000000; seed += 12347) {
                OrphanLogs o = new OrphanLogs();
                o.clerks(n);
                OrphanLogs p = new OrphanLogs();
                p.clerks(n);
                int done = 0;
                long x = seed;
                for (int i = 0; i < 60; i++) {
                    x = (x * 1103515245L + 12345L) % 2147483648L;
                    int c = (int) (x / 65536 % n);
                    int kind = (int) (x / 1024 % 9);
                    int answer;
                    if (kind < 3) answer = p.work(c, (int) (x / 32768 % 1000));
                    else if (kind < 5) answer = p.send(c, (c + 1) % n);
                    else if (kind < 7) answer = p.get(c, 0);
                    else if (kind == 7) answer = p.writes(c, 2);
                    else answer = p.says(c);
                    if (answer >= -1) done++;
                }
                due("8 done", o.draw(seed, 60), done);
                for (int c = 0; c < n; c++) {
                    for (int what = 0; what <= 7; what++) due("8 of", o.of(c, what), p.of(c, what));
                }
                for (int what = 3; what <= 9; what++) due("8 told", o.told(what), p.told(what));
            }
        }
    }

    private static void of() {
        OrphanLogs o = new OrphanLogs();
        o.loses(1);
        o.work(1, 4);
        o.work(1, 5);
        o.work(1, 6);
        o.writes(1, 2);
        o.cuts(1);
        o.writes(1, 24);
        o.work(1, 7);
        o.send(0, 1);
        o.send(2, 1);
        o.send(1, 0);
        o.says(1);
        o.says(1);
        o.says(0);
        due("9 life", o.of(1, 0), 1);
        due("9 now", o.of(1, 1), 4);
        due("9 written", o.of(1, 2), 3);
        due("9 firm", o.of(1, 3), 3);
        due("9 least", o.of(1, 4), 2);
        due("9 sum", o.of(1, 5), ((4 * 3 + 5) * 3 + 6) * 3 + 7);
        due("9 letters", o.of(1, 6), 2);
        due("9 held", o.of(1, 7), 2);
        due("9 c", o.of(3, 0), -2);
        due("9 c below", o.of(-1, 0), -2);
        due("9 what", o.of(0, 8), -2);
        due("9 what below", o.of(0, -1), -2);
        due("9 counted", o.told(0), 4);
    }

    private static void page() {
        OrphanLogs o = new OrphanLogs();
        o.work(0, 5);
        o.send(0, 1);
        o.get(1, 0);
        due("10 life", o.page(1, 1, 2, 0), 0);
        due("10 sum", o.page(1, 1, 2, 1), 5);
        due("10 rests", o.page(1, 1, 0, 2), 0);
        due("10 rests", o.page(1, 1, 0, 3), 1);
        due("10 page 0", o.page(1, 0, 0, 3), 0);
        due("10 none", o.page(1, 2, 0, 3), -3);
        due("10 far", o.page(1, Integer.MAX_VALUE, 0, 3), -3);
        due("10 c", o.page(3, 0, 0, 0), -2);
        due("10 c below", o.page(-1, 0, 0, 0), -2);
        due("10 k", o.page(0, -1, 0, 0), -2);
        due("10 d counts, too", o.page(0, 0, 3, 0), -2);
        due("10 d below", o.page(0, 0, -1, 1), -2);
        due("10 what", o.page(0, 0, 0, 4), -2);
        due("10 what below", o.page(0, 0, 0, -1), -2);
        due("10 bad before no", o.page(0, 5, 0, 4), -2);
        o.writes(0, 1);
        o.cuts(0);
        due("10 cut off", o.page(0, 0, 0, 0), -3);
        due("10 not cut off", o.page(0, 1, 0, 1), 5);
        due("10 counted", o.told(1), 3);
    }

    private static void deadAndEnd() {
        OrphanLogs o = new OrphanLogs();
        due("11 none is over", o.dead(0, 0, 99), 0);
        due("12 not over", o.end(0, 0), -1);
        for (int i = 0; i < 6; i++) o.work(0, 1);
        o.writes(0, 4);
        o.loses(0);
        due("12 end", o.end(0, 0), 4);
        due("11 stays", o.dead(0, 0, 4), 0);
        due("11 goes", o.dead(0, 0, 5), 1);
        due("11 of the life that goes on", o.dead(0, 1, 99), 0);
        o.work(0, 1);
        o.writes(0, 1);
        o.work(0, 1);
        o.loses(0);
        due("12 end", o.end(0, 1), 5);
        due("11 life 0", o.dead(0, 0, 5), 1);
        due("11 life 1", o.dead(0, 1, 5), 0);
        due("11 life 1", o.dead(0, 1, 6), 1);
        due("11 life 0, page 0", o.dead(0, 0, 0), 0);
        due("11 of another", o.dead(1, 0, 99), 0);
        laterLifeEndsBelow();
        int[] wrong = {-1, 100};
        for (int w : wrong) {
            due("11 l", o.dead(0, w, 0), -2);
            due("11 k", o.dead(0, 0, w), -2);
            due("12 l", o.end(0, w), -2);
        }
        due("11 c", o.dead(3, 0, 0), -2);
        due("11 c below", o.dead(-1, 0, 0), -2);
        due("12 c", o.end(3, 0), -2);
        due("12 c below", o.end(-1, 0), -2);
        due("11 last", o.dead(0, 99, 99), 0);
        due("12 last", o.end(0, 99), -1);
        due("counted", o.told(0), 10);
    }

    /** Life 0 of clerk 1 ends on page 2; life 1 falls with clerk 0's loss to page 0. */
    private static void laterLifeEndsBelow() {
        OrphanLogs o = new OrphanLogs();
        o.work(0, 1);
        o.send(0, 1);
        o.get(1, 0);
        o.work(1, 1);
        o.writes(1, 24);
        due("12 nothing goes", o.loses(1), 0);
        due("12 end of 0", o.end(1, 0), 2);
        due("11 it stays", o.dead(1, 0, 2), 0);
        due("12 now they go", o.loses(0), 3);
        due("12 end of 1", o.end(1, 1), 0);
        due("12 end of 0 stays", o.end(1, 0), 2);
        due("11 by the later one", o.dead(1, 0, 1), 1);
        due("11 page 0", o.dead(1, 0, 0), 0);
        due("11 by life 1", o.dead(1, 1, 1), 1);
        due("11 life 2", o.dead(1, 2, 1), 0);
    }
}
