/** Promises 15 to 21: what is told to the world, cutting, what would be. */
final class SayingsTest {
    private static final Check CHECK = new Check("SayingsTest");

    private static void due(String call, long got, long want) {
        CHECK.due(call, got, want);
    }

    public static void main(String[] args) {
        says();
        saysIsFull();
        release();
        releaseInOrder();
        saying();
        released();
        cuts();
        firmNeedsOthers();
        would();
        worst();
        CHECK.close();
    }

    private static void says() {
        OrphanLogs o = new OrphanLogs();
        due("15 first", o.says(0), 1);
        due("15 second", o.says(2), 2);
        o.work(1, 1);
        due("15 third", o.says(1), 3);
        due("15 c", o.says(3), -2);
        due("15 c below", o.says(-1), -2);
        o.release();
        due("15 held only", o.says(1), 2);
        due("15 in all", o.told(6), 4);
    }

    private static void saysIsFull() {
        OrphanLogs o = new OrphanLogs();
        o.work(1, 1);
        for (int i = 1; i <= 10; i++) due("15 held", o.says(0), i);
        due("16 ten", o.release(), 10);
        for (int i = 1; i <= 10; i++) due("15 held", o.says(1), i);
        o.loses(1);
        for (int i = 1; i <= 10; i++) due("15 held", o.says(2), i);
        due("15 full with released and lost ones", o.says(0), -4);
        due("15 bad first", o.says(3), -2);
        due("15 in all", o.told(6), 30);
        due("15 counted", o.told(2), 1);
    }

    private static void release() {
        OrphanLogs o = new OrphanLogs();
        due("16 none", o.release(), 0);
        o.work(0, 1);
        o.send(0, 1);
        o.get(1, 0);
        o.says(1);
        due("16 nothing is written", o.release(), 0);
        o.writes(1, 1);
        due("16 rests on an unwritten page", o.release(), 0);
        due("16 not safe", o.saying(0, 3), 0);
        o.writes(0, 1);
        due("16 safe", o.saying(0, 3), 1);
        due("16 goes", o.release(), 1);
        due("16 once", o.release(), 0);
        due("16 released", o.told(8), 1);
        due("16 held", o.told(7), 0);
        o.work(0, 1);
        due("16 it stays", o.loses(0), 1);
        due("16 released for good", o.saying(0, 2), 1);
    }

    private static void releaseInOrder() {
        OrphanLogs o = new OrphanLogs();
        o.work(2, 1);
        o.work(2, 1);
        o.says(2);
        o.work(1, 1);
        o.says(1);
        o.work(1, 1);
        o.says(1);
        o.says(1);
        o.work(0, 1);
        o.says(0);
        o.work(0, 1);
        o.says(0);
        o.writes(0, 24);
        o.writes(1, 24);
        o.writes(2, 1);
        due("16 all but one", o.release(), 5);
        int[] order = {4, 1, 5, 2, 3};
        for (int k = 0; k < order.length; k++) due("16 order " + k, o.released(k), order[k]);
        due("18 no more", o.released(5), -1);
        o.says(0);
        o.writes(2, 1);
        due("16 later", o.release(), 2);
        due("18 behind the others: clerk 0 first", o.released(5), 6);
        due("18 then clerk 2", o.released(6), 0);
    }

    private static void saying() {
        OrphanLogs o = new OrphanLogs();
        due("17 none", o.saying(0, 0), -1);
        o.work(1, 1);
        o.says(1);
        o.says(0);
        due("17 clerk", o.saying(0, 0), 1);
        due("17 page", o.saying(0, 1), 1);
        due("17 held", o.saying(0, 2), 0);
        due("17 not safe", o.saying(0, 3), 0);
        due("17 safe", o.saying(1, 3), 1);
        o.release();
        due("17 released", o.saying(1, 2), 1);
        due("17 no more safe", o.saying(1, 3), 0);
        o.loses(1);
        due("17 lost", o.saying(0, 2), 2);
        due("17 lost is not safe", o.saying(0, 3), 0);
        o.work(1, 1);
        o.writes(1, 1);
        due("17 lost for good", o.saying(0, 2), 2);
        due("17 not safe by a new page", o.saying(0, 3), 0);
        due("17 nor released", o.release(), 0);
        due("17 its page stays told", o.saying(0, 1), 1);
        due("17 not so many", o.saying(2, 0), -1);
        due("17 far", o.saying(Integer.MAX_VALUE, 0), -1);
        due("17 k", o.saying(-1, 0), -2);
        due("17 what", o.saying(0, 4), -2);
        due("17 what below", o.saying(0, -1), -2);
        due("17 what first", o.saying(9, 4), -2);
        due("17 counted", o.told(0), 4);
        o.says(1);
        o.work(1, 1);
        o.writes(1, 24);
        o.cuts(1);
        due("17 on a page cut off", o.saying(2, 3), 1);
        due("17 released from there", o.release(), 1);
    }

    private static void released() {
        OrphanLogs o = new OrphanLogs();
        due("18 none", o.released(0), -1);
        due("18 k", o.released(-1), -2);
        due("18 far", o.released(Integer.MAX_VALUE), -1);
        o.says(2);
        o.says(1);
        due("18 held ones do not count", o.released(0), -1);
        o.release();
        due("18 first", o.released(0), 1);
        due("18 second", o.released(1), 0);
        due("18 counted", o.told(0), 1);
    }

    private static void cuts() {
        OrphanLogs o = new OrphanLogs();
        due("19 none", o.cuts(0), 0);
        for (int i = 0; i < 6; i++) o.work(0, 1);
        due("19 nothing written", o.cuts(0), 0);
        o.writes(0, 3);
        due("19 ahead of the firm one", o.cuts(0), 3);
        due("19 least", o.of(0, 4), 3);
        due("19 firm one stays", o.page(0, 3, 0, 3), 3);
        due("19 cut off", o.page(0, 2, 0, 3), -3);
        due("19 once", o.cuts(0), 0);
        o.writes(0, 1);
        due("19 that were not", o.cuts(0), 1);
        o.loses(0);
        due("19 it stays cut off", o.of(0, 4), 4);
        due("19 of the other nothing", o.of(1, 4), 0);
        due("19 c", o.cuts(3), -2);
        due("19 c below", o.cuts(-1), -2);
    }

    private static void firmNeedsOthers() {
        OrphanLogs o = new OrphanLogs();
        o.work(0, 1);
        o.send(0, 1);
        o.work(1, 1);
        o.get(1, 0);
        o.work(1, 1);
        o.writes(1, 24);
        due("9 firm", o.of(1, 3), 1);
        due("19 up to it", o.cuts(1), 1);
        o.writes(0, 1);
        due("9 firm now", o.of(1, 3), 3);
        due("19 the rest", o.cuts(1), 2);
    }

    private static void would() {
        OrphanLogs o = new OrphanLogs();
        due("20 nothing", o.would(0, 0), 0);
        due("20 his own life", o.would(0, 1), 1);
        due("20 none lost", o.would(0, 2), 0);
        o.work(0, 1);
        o.work(0, 1);
        o.says(0);
        o.writes(0, 1);
        o.says(1);
        o.send(0, 1);
        o.get(1, 0);
        o.work(1, 1);
        o.says(1);
        o.says(1);
        o.send(1, 2);
        o.get(2, 0);
        long before = o.digest();
        due("20 pages", o.would(0, 0), 4);
        due("20 clerks", o.would(0, 1), 3);
        due("20 sayings", o.would(0, 2), 3);
        due("20 pages", o.would(1, 0), 3);
        due("20 clerks", o.would(1, 1), 2);
        due("20 sayings", o.would(1, 2), 2);
        due("20 pages", o.would(2, 0), 1);
        due("20 all stays", o.digest(), before);
        due("20 nothing is over", o.end(0, 0), -1);
        due("20 c", o.would(3, 0), -2);
        due("20 c below", o.would(-1, 0), -2);
        due("20 what", o.would(0, 3), -2);
        due("20 what below", o.would(0, -1), -2);
        due("20 as told", o.loses(0), 4);
        due("20 lost", o.told(7), 1);
        o.work(0, 1);
        due("20 lost ones are not lost again", o.would(0, 2), 0);
    }

    private static void worst() {
        OrphanLogs o = new OrphanLogs();
        due("21 of like ones the least", o.worst(0), 0);
        due("21 none", o.worst(1), 0);
        o.work(2, 1);
        due("21 who", o.worst(0), 2);
        due("21 how many", o.worst(1), 1);
        o.work(1, 1);
        due("21 of like ones the least", o.worst(0), 1);
        o.send(2, 0);
        o.get(0, 0);
        due("21 with what rests on it", o.worst(0), 2);
        due("21 how many", o.worst(1), 2);
        due("21 what", o.worst(2), -2);
        due("21 what below", o.worst(-1), -2);
        due("21 all stays", o.of(2, 0), 0);
        due("21 counted", o.told(0), 2);
    }
}
