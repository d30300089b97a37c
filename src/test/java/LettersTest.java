/** Promises 13 and 14: letters on their way. */
final class LettersTest {
    private static final Check CHECK = new Check("LettersTest");

    private static void due(String call, long got, long want) {
        CHECK.due(call, got, want);
    }

    public static void main(String[] args) {
        letter();
        deadByAnyRest();
        sweeps();
        CHECK.close();
    }

    private static void letter() {
        OrphanLogs o = new OrphanLogs();
        due("13 none", o.letter(1, 0, 0), -1);
        o.work(0, 5);
        o.work(2, 6);
        o.work(2, 1);
        o.send(0, 1);
        o.send(0, 2);
        o.send(2, 1);
        due("13 from", o.letter(1, 0, 0), 0);
        due("13 from", o.letter(1, 1, 0), 2);
        due("13 sum", o.letter(1, 0, 1), 5);
        due("13 sum", o.letter(1, 1, 1), 19);
        due("13 lives", o.letter(1, 0, 2), 0);
        due("13 page", o.letter(1, 0, 3), 1);
        due("13 page", o.letter(1, 1, 3), 2);
        due("13 to 2", o.letter(2, 0, 0), 0);
        due("13 not so many", o.letter(1, 2, 0), -1);
        due("13 far", o.letter(1, Integer.MAX_VALUE, 3), -1);
        o.work(0, 8);
        due("13 as it was sent", o.letter(1, 0, 3), 1);
        o.loses(2);
        due("13 dead", o.letter(1, 1, 2), 1);
        due("13 not dead", o.letter(1, 0, 2), 0);
        due("13 page stays", o.letter(1, 1, 3), 2);
        o.get(1, 0);
        due("13 moves up", o.letter(1, 0, 0), 2);
        due("13 with its sum", o.letter(1, 0, 1), 19);
        due("13 with its rests", o.letter(1, 0, 3), 2);
        due("13 d", o.letter(3, 0, 0), -2);
        due("13 d below", o.letter(-1, 0, 0), -2);
        due("13 k", o.letter(0, -1, 0), -2);
        due("13 what", o.letter(0, 0, 4), -2);
        due("13 what below", o.letter(0, 0, -1), -2);
        due("13 counted", o.told(0), 5);
        due("13 NONE is no refusal", o.told(1), 0);
    }

    /** A letter dies by what it rests on of others, of the receiver, too. */
    private static void deadByAnyRest() {
        OrphanLogs o = new OrphanLogs();
        o.work(0, 5);
        o.send(0, 1);
        o.get(1, 0);
        o.send(1, 0);
        o.send(1, 2);
        o.send(2, 1);
        due("13 not yet", o.letter(0, 0, 2), 0);
        due("13 both go", o.loses(0), 2);
        due("13 by the receiver", o.letter(0, 0, 2), 1);
        due("13 by a third", o.letter(2, 0, 2), 1);
        due("13 rests on nothing", o.letter(1, 0, 2), 0);
        due("5 thrown away", o.get(0, 0), -1);
        due("5 no page", o.of(0, 1), 0);
        due("5 it comes", o.get(1, 0), 1);
    }

    private static void sweeps() {
        OrphanLogs o = new OrphanLogs();
        due("14 none", o.sweeps(), 0);
        o.work(0, 5);
        o.work(2, 6);
        o.send(0, 1);
        o.send(2, 1);
        o.send(0, 2);
        o.send(1, 2);
        o.send(2, 1);
        due("14 none dead", o.sweeps(), 0);
        o.writes(2, 1);
        o.loses(2);
        due("14 written ones live", o.sweeps(), 0);
        o.loses(0);
        due("14 two", o.sweeps(), 2);
        due("14 stay", o.told(5), 3);
        due("14 in order", o.letter(1, 0, 0), 2);
        due("14 in order", o.letter(1, 1, 0), 2);
        due("14 in order", o.letter(2, 0, 0), 1);
        due("14 again", o.sweeps(), 0);
        due("14 not by losses", o.told(9), 1);
    }
}
