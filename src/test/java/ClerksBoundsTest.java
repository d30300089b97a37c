import java.util.ArrayList;
import java.util.List;
import java.util.Map;

/**
 * The bounds of promises 1 to 12 and of the terms they use: just inside, at and just beyond each,
 * the answer, how often refused, and that a refused call changes nothing else.
 */
final class ClerksBoundsTest {
    private static final int NONE = Bounds.NONE, BAD = Bounds.BAD, NO = Bounds.NO, FULL = Bounds.FULL;
    private static final int LEAST = Bounds.LEAST, MOST = Bounds.MOST;
    private static final Bounds B = new Bounds("ClerksBoundsTest");
    private static final List<States> STATES = States.all();

    public static void main(String[] args) {
        theStates();
        newObject();
        clerksWithin();
        clerksBad();
        clerksIsAsAtFirst();
        workWithin();
        workBad();
        workFull();
        workFullCountsPagesCutOff();
        workHasRoomBehindALoss();
        sumLeftOver();
        sumLeftOverOfLetters();
        sendWithin();
        sendBad();
        sendFull();
        sendFullCountsDeadLetters();
        getWithin();
        getBad();
        getNo();
        getFull();
        getDeadThoughFull();
        getNoComesAheadOfFull();
        getRestsOfLikeLives();
        restsOfTheFirstAndLastOfFive();
        writesWithin();
        writesBad();
        losesBad();
        losesFull();
        losesNothing();
        lossAtWhatIsWritten();
        lossAtTheFirstDeadPage();
        lossOfLeastClerkByGreatest();
        drawWithin();
        drawBad();
        drawIsAsAtFirst();
        drawOneThing();
        drawOnlyIfItCanBe();
        ofBad();
        ofChangesNothing();
        pageBad();
        pageNo();
        pageNoWhereCutOff();
        pageDCountsNot();
        deadBad();
        deadAtTheEnd();
        endBad();
        endNone();
        the512thCall();
        B.close();
    }

    /** Numbers that are no clerk of n. */
    private static int[] noClerks(int n) {
        return new int[] {-1, n, n + 1, LEAST, MOST};
    }

    private static void bad(String label, States state, Story.Call call) {
        B.refused(label + " (" + state.name() + ")", state.story(), call, BAD);
    }

    /** What the states are made for is there. */
    private static void theStates() {
        for (int n : new int[] {2, 3, 5}) {
            OrphanLogs o = States.busy(n).tell();
            int[] told = {1, 1, 0, States.BUSY_TEXT.length(), n, 3, 4, 2, 1, 1};
            for (int what = 0; what <= 9; what++) B.due("busy told " + what, o.told(what), told[what]);
            int[] states = {2, 1, 0, 0};
            int[] safe = {0, 0, 0, 1};
            for (int k = 0; k < 4; k++) B.due("busy saying " + k, o.saying(k, 2), states[k]);
            for (int k = 0; k < 4; k++) B.due("busy safe " + k, o.saying(k, 3), safe[k]);
            B.due("busy dead letter", o.letter(0, 0, 2), 1);
            B.due("busy living letter", o.letter(0, 1, 2), 0);
            B.due("busy least page", o.of(0, 4), 2);
            B.due("busy now", o.of(0, 1), 3);
        }
        OrphanLogs o = States.full(3).tell();
        int[] told = {0, 0, 0, 120, 3, 40, 30, 30, 0, 0};
        for (int what = 0; what <= 9; what++) B.due("full told " + what, o.told(what), told[what]);
        B.due("full pages", o.of(0, 1), 23);
        B.due("full pages", o.of(1, 1), 23);
        B.due("full lives", o.of(1, 0), 60);
        OrphanLogs p = States.fallen().tell();
        B.due("fallen pages", p.told(9), 7);
        for (int c = 0; c < 5; c++) B.due("fallen life", p.of(c, 0), 1);
        for (int c = 0; c < 5; c++) B.due("fallen now", p.of(c, 1), 1);
    }

    // ---- 1

    private static void newObject() {
        Story story = new Story();
        for (int c = 0; c < 3; c++) {
            int d = c;
            for (int what = 0; what <= 7; what++) {
                int w = what;
                B.changesNothing("1 of", story, o -> o.of(d, w), 0);
            }
            for (int other = 0; other < 3; other++) {
                int e = other;
                B.changesNothing("1 rests on life 0", story, o -> o.page(d, 0, e, 2), 0);
                B.changesNothing("1 rests on page 0", story, o -> o.page(d, 0, e, 3), 0);
            }
            B.changesNothing("1 page 0, its life", story, o -> o.page(d, 0, 0, 0), 0);
            B.changesNothing("1 page 0, its sum", story, o -> o.page(d, 0, 0, 1), 0);
            B.refused("1 no page 1", story, o -> o.page(d, 1, 0, 0), NO);
            B.changesNothing("1 no life is over", story, o -> o.end(d, 0), NONE);
            B.changesNothing("1 nothing is dead", story, o -> o.dead(d, 0, 99), 0);
            B.changesNothing("1 no letter", story, o -> o.letter(d, 0, 0), NONE);
            B.refused("1 no letter comes", story, o -> o.get(d, 0), NO);
        }
        B.changesNothing("1 clerk 2 is", story, o -> o.of(2, 0), 0);
        B.refused("1 clerk 3 is not", story, o -> o.of(3, 0), BAD);
        B.changesNothing("1 no saying", story, o -> o.saying(0, 0), NONE);
        B.changesNothing("1 none released", story, o -> o.released(0), NONE);
        B.changesNothing("1 none to be released", story, OrphanLogs::release, 0);
        B.changesNothing("1 none to be swept", story, OrphanLogs::sweeps, 0);
        B.changesNothing("1 an empty text", story, OrphanLogs::clear, 0);
        B.changesNothing("1 an empty text ends too early", story, OrphanLogs::does, -10);
        for (int what = 0; what <= 9; what++) {
            int w = what;
            B.changesNothing("1 told", story, o -> o.told(w), w == 4 ? 3 : 0);
        }
    }

    // ---- 2

    private static void clerksWithin() {
        for (int v = 2; v <= 5; v++) {
            int n = v;
            B.answers("2 from 3 to " + n, new Story(), o -> o.clerks(n), 3);
            B.answers("2 it became " + n, States.begun(n), o -> o.told(4), n);
            B.answers("2 what it was", States.begun(n), o -> o.clerks(2), n);
            B.answers("2 the last clerk", States.begun(n), o -> o.work(n - 1, 0), 1);
            B.refused("2 no clerk", States.begun(n), o -> o.work(n, 0), BAD);
        }
    }

    private static void clerksBad() {
        for (States s : STATES) {
            for (int v : new int[] {1, 6, 0, -1, 7, LEAST, MOST}) bad("2 clerks(" + v + ")", s, o -> o.clerks(v));
        }
    }

    private static void clerksIsAsAtFirst() {
        for (States s : STATES) {
            OrphanLogs was = s.story().tell();
            Map<String, Long> kept = Map.of("told(0)", (long) was.told(0), "told(1)", (long) was.told(1),
                    "told(2)", (long) was.told(2), "told(3)", (long) was.told(3));
            for (int v = 2; v <= 5; v++) {
                int n = v;
                B.sameBut("2 as at first (" + s.name() + ")", States.begun(n), s.story().then(o -> o.clerks(n)), kept);
            }
        }
        Story anew = States.busy(3).then(o -> o.clerks(3));
        B.answers("2 the text is what it was", anew, OrphanLogs::does, 2);
        B.answers("2 as many letters as at first", States.full(3).then(o -> o.clerks(3)), o -> o.send(0, 1), 1);
        B.answers("2 as many sayings as at first", States.full(3).then(o -> o.clerks(3)), o -> o.says(0), 1);
        B.answers("2 as many pages as at first", States.full(3).then(o -> o.clerks(3)), o -> o.work(0, 5), 1);
        B.answers("2 the lives begin again", States.full(3).then(o -> o.clerks(3)), o -> o.loses(1), 0);
    }

    // ---- 3, and a new page

    private static void workWithin() {
        for (int n = 2; n <= 5; n++) {
            int last = n - 1;
            for (int x : new int[] {0, 1, 998, 999}) {
                B.answers("3 the first clerk", States.begun(n), o -> o.work(0, x), 1);
                B.answers("3 the last clerk", States.begun(n), o -> o.work(last, x), 1);
                B.answers("3 told " + x, States.begun(n).then(o -> o.work(last, x)), o -> o.of(last, 5), x);
            }
        }
    }

    private static void workBad() {
        for (States s : STATES) {
            for (int c : noClerks(s.n())) bad("3 work c " + c, s, o -> o.work(c, 0));
            for (int x : new int[] {-1, 1000, LEAST, MOST}) bad("3 work x " + x, s, o -> o.work(0, x));
            bad("3 work, both wrong", s, o -> o.work(s.n(), 1000));
        }
    }

    private static void workFull() {
        for (int n = 2; n <= 5; n++) {
            int c = n - 1;
            Story before = States.begun(n).times(22, o -> o.work(c, 1));
            B.answers("3 page 23, the 24th", before, o -> o.work(c, 1), 23);
            Story full = before.then(o -> o.work(c, 1));
            B.refused("3 no page 24", full, o -> o.work(c, 1), FULL);
            B.refused("3 BAD comes ahead of FULL", full, o -> o.work(c, 1000), BAD);
            B.answers("3 another has room", full, o -> o.work(0, 1), 1);
        }
        B.refused("3 still full when all is written", new Story().times(23, o -> o.work(0, 1)).then(o -> o.writes(0, 24)),
                o -> o.work(0, 1), FULL);
    }

    private static void workFullCountsPagesCutOff() {
        Story cut = new Story().times(22, o -> o.work(0, 1)).then(o -> o.writes(0, 24), o -> o.cuts(0));
        B.answers("3 the least page left", cut, o -> o.of(0, 4), 22);
        B.answers("3 the 24th", cut, o -> o.work(0, 1), 23);
        B.refused("3 those cut off count", cut.then(o -> o.work(0, 1)), o -> o.work(0, 1), FULL);
    }

    private static void workHasRoomBehindALoss() {
        Story full = new Story().times(23, o -> o.work(0, 1)).then(o -> o.writes(0, 22));
        B.answers("3 one goes", full, o -> o.loses(0), 1);
        Story lost = full.then(o -> o.loses(0));
        B.answers("3 number 1 above now", lost, o -> o.work(0, 1), 23);
        B.answers("3 of his life", lost.then(o -> o.work(0, 1)), o -> o.page(0, 23, 0, 0), 1);
        B.refused("3 and no more", lost.then(o -> o.work(0, 1)), o -> o.work(0, 1), FULL);
    }

    /** 457, 1371, 4115, 12345, 37037, 111111, 333334: three times the last is 1000002. */
    private static Story sum333334() {
        Story story = new Story();
        for (int x : new int[] {457, 0, 2, 0, 2, 0, 1}) story = story.then(o -> o.work(0, x));
        return story;
    }

    private static void sumLeftOver() {
        B.answers("3 sum so far", sum333334(), o -> o.of(0, 5), 333334);
        int[] sums = {1000002, 0, 1, 2};
        for (int told = 0; told < sums.length; told++) {
            int x = told;
            B.answers("3 by 1000003 left over, told " + x, sum333334().then(o -> o.work(0, x)), o -> o.of(0, 5), sums[x]);
        }
        B.answers("3 told 999", sum333334().then(o -> o.work(0, 999)), o -> o.of(0, 5), 998);
    }

    /** A sum of 1000002 that is told by a letter to one whose own is 0, 1 and 1000002. */
    private static void sumLeftOverOfLetters() {
        Story sent = sum333334().then(o -> o.work(0, 0), o -> o.send(0, 1), o -> o.send(0, 1));
        B.answers("5 the greatest sum", sent.then(o -> o.get(1, 0)), o -> o.of(1, 5), 1000002);
        B.answers("5 its letter has it", sent, o -> o.letter(1, 0, 1), 1000002);
        Story worked = sent.then(o -> o.work(1, 1), o -> o.get(1, 0));
        B.answers("5 3 and 1000002", worked, o -> o.of(1, 5), 2);
        Story twice = sent.then(o -> o.get(1, 0), o -> o.get(1, 0));
        B.answers("5 3000006 and 1000002", twice, o -> o.of(1, 5), 999999);
    }

    // ---- 4

    private static void sendWithin() {
        for (int n = 2; n <= 5; n++) {
            int last = n - 1;
            B.answers("4 to the last", States.begun(n), o -> o.send(0, last), 1);
            B.answers("4 from the last", States.begun(n), o -> o.send(last, 0), 1);
            B.answers("4 it is to him", States.begun(n).then(o -> o.send(0, last)), o -> o.of(last, 6), 1);
            B.answers("4 no new page", States.begun(n).then(o -> o.send(0, last)), o -> o.of(0, 1), 0);
        }
    }

    private static void sendBad() {
        for (States s : STATES) {
            for (int c : noClerks(s.n())) {
                bad("4 send c " + c, s, o -> o.send(c, 0));
                bad("4 send d " + c, s, o -> o.send(0, c));
                bad("4 send both " + c, s, o -> o.send(c, c));
            }
            for (int c = 0; c < s.n(); c++) {
                int himself = c;
                bad("4 to himself " + c, s, o -> o.send(himself, himself));
            }
        }
    }

    private static void sendFull() {
        Story story = new Story().times(20, o -> o.send(0, 1)).times(19, o -> o.send(1, 2));
        B.answers("4 the 40th", story, o -> o.send(2, 0), 40);
        Story full = story.then(o -> o.send(2, 0));
        for (int c = 0; c < 3; c++) {
            int from = c;
            B.refused("4 no 41st", full, o -> o.send(from, (from + 1) % 3), FULL);
        }
        B.refused("4 BAD comes ahead of FULL", full, o -> o.send(0, 0), BAD);
        B.answers("4 room again behind one that came", full.then(o -> o.get(0, 0)), o -> o.send(0, 1), 40);
        B.refused("4 room for one", full.then(o -> o.get(0, 0), o -> o.send(0, 1)), o -> o.send(0, 1), FULL);
    }

    private static void sendFullCountsDeadLetters() {
        Story story = new Story().then(o -> o.work(0, 1)).times(2, o -> o.send(0, 1)).times(38, o -> o.send(2, 1))
                .then(o -> o.loses(0));
        B.refused("4 dead ones are on their way", story, o -> o.send(0, 1), FULL);
        B.answers("4 room behind one thrown away", story.then(o -> o.get(1, 0)), o -> o.send(0, 1), 40);
        B.answers("4 room behind those swept", story.then(OrphanLogs::sweeps), o -> o.send(0, 1), 39);
    }

    // ---- 5

    private static void getWithin() {
        for (int n = 2; n <= 5; n++) {
            int last = n - 1;
            Story story = States.begun(n).then(o -> o.work(0, 3), o -> o.send(0, last), o -> o.work(0, 4),
                    o -> o.send(last, 0), o -> o.send(0, last));
            B.answers("5 the first", story, o -> o.get(last, 0), 1);
            B.answers("5 its sum", story.then(o -> o.get(last, 0)), o -> o.of(last, 5), 3);
            B.answers("5 the last one", story, o -> o.get(last, 1), 1);
            B.answers("5 its sum", story.then(o -> o.get(last, 1)), o -> o.of(last, 5), 13);
            B.answers("5 the other stays", story.then(o -> o.get(last, 1)), o -> o.letter(last, 0, 1), 3);
            B.answers("5 to the first clerk", story, o -> o.get(0, 0), 3);
        }
    }

    private static void getBad() {
        for (States s : STATES) {
            for (int d : noClerks(s.n())) bad("5 get d " + d, s, o -> o.get(d, 0));
            bad("5 get k -1", s, o -> o.get(0, -1));
            bad("5 get k far below", s, o -> o.get(1, LEAST));
            bad("5 get, both wrong", s, o -> o.get(-1, -1));
        }
    }

    private static void getNo() {
        for (States s : STATES) {
            for (int d = 0; d < s.n(); d++) {
                int to = d;
                int many = s.story().tell().of(d, 6);
                for (int k : new int[] {many, many + 1, 99, 100, MOST}) {
                    B.refused("5 not so many, k " + k + " (" + s.name() + ")", s.story(), o -> o.get(to, k), NO);
                }
            }
        }
        B.refused("5 one is not two", new Story().then(o -> o.send(0, 1)), o -> o.get(1, 1), NO);
        B.refused("5 one to another", new Story().then(o -> o.send(0, 1)), o -> o.get(2, 0), NO);
        B.refused("5 gone once it came", new Story().then(o -> o.send(0, 1), o -> o.get(1, 0)), o -> o.get(1, 0), NO);
    }

    private static void getFull() {
        Story story = new Story().then(o -> o.work(0, 3)).times(2, o -> o.send(0, 1)).times(22, o -> o.work(1, 1));
        B.answers("5 the 24th page", story, o -> o.get(1, 0), 23);
        Story full = story.then(o -> o.get(1, 0));
        B.refused("5 24 pages, the letter stays", full, o -> o.get(1, 0), FULL);
        B.answers("5 it is still there", full.then(o -> o.get(1, 0)), o -> o.of(1, 6), 1);
        B.refused("5 BAD comes ahead of FULL", full, o -> o.get(1, -1), BAD);
        Story cut = new Story().then(o -> o.send(0, 1)).times(23, o -> o.work(1, 1)).then(o -> o.writes(1, 24), o -> o.cuts(1));
        B.refused("5 those cut off count", cut, o -> o.get(1, 0), FULL);
    }

    private static void getDeadThoughFull() {
        Story story = new Story().then(o -> o.work(0, 3), o -> o.send(0, 1), o -> o.loses(0), o -> o.send(0, 1))
                .times(23, o -> o.work(1, 1));
        B.answers("5 thrown away", story, o -> o.get(1, 0), NONE);
        Story thrown = story.then(o -> o.get(1, 0));
        B.answers("5 it is gone", thrown, o -> o.of(1, 6), 1);
        B.answers("5 no page came", thrown, o -> o.of(1, 1), 23);
        B.refused("5 the one that lives stays", thrown, o -> o.get(1, 0), FULL);
        B.refused("5 and is looked at first", story, o -> o.get(1, 1), FULL);
        Story room = new Story().then(o -> o.work(0, 3), o -> o.send(0, 1), o -> o.loses(0));
        B.answers("5 thrown away with room, too", room, o -> o.get(1, 0), NONE);
        B.answers("5 no page for it", room.then(o -> o.get(1, 0)), o -> o.of(1, 1), 0);
        B.answers("5 none on its way", room.then(o -> o.get(1, 0)), o -> o.told(5), 0);
    }

    private static void getNoComesAheadOfFull() {
        Story story = new Story().then(o -> o.send(0, 1)).times(23, o -> o.work(1, 1));
        B.refused("5 NO comes ahead of FULL", story, o -> o.get(1, 1), NO);
        B.refused("5 no letter and 24 pages", new Story().times(23, o -> o.work(1, 1)), o -> o.get(1, 0), NO);
        B.refused("5 FULL", story, o -> o.get(1, 0), FULL);
    }

    /** Clerk 1 has page 2 of clerk 0 as a rest; letters come that rest on his pages 1, 2 and 3. */
    private static void getRestsOfLikeLives() {
        Story story = new Story().then(o -> o.work(0, 1), o -> o.send(0, 1), o -> o.work(0, 1), o -> o.send(0, 1),
                o -> o.send(0, 1), o -> o.work(0, 1), o -> o.send(0, 1), o -> o.get(1, 1));
        B.answers("5 rests on 2", story, o -> o.page(1, 1, 0, 3), 2);
        B.answers("5 a lesser page", story.then(o -> o.get(1, 0)), o -> o.page(1, 2, 0, 3), 2);
        B.answers("5 a like page", story.then(o -> o.get(1, 1)), o -> o.page(1, 2, 0, 3), 2);
        B.answers("5 a greater page", story.then(o -> o.get(1, 2)), o -> o.page(1, 2, 0, 3), 3);
        Story later = story.then(o -> o.writes(0, 3), o -> o.loses(0), o -> o.work(0, 1), o -> o.send(0, 1));
        B.answers("5 of the greater life", later.then(o -> o.get(1, 3)), o -> o.page(1, 2, 0, 2), 1);
        B.answers("5 its page", later.then(o -> o.get(1, 3)), o -> o.page(1, 2, 0, 3), 4);
        Story back = later.then(o -> o.get(1, 3), o -> o.get(1, 2));
        B.answers("5 the lesser life comes later", back, o -> o.page(1, 3, 0, 2), 1);
        B.answers("5 its page stays", back, o -> o.page(1, 3, 0, 3), 4);
    }

    /** The most clerks: what one page or letter rests on of the first and the last is not its neighbour's. */
    private static void restsOfTheFirstAndLastOfFive() {
        Story pages = States.begun(5).then(o -> o.work(4, 1), o -> o.send(4, 0), o -> o.work(0, 1), o -> o.get(0, 0))
                .times(2, o -> o.work(0, 1));
        int[] due = {0, 0, 1, 1, 1};
        for (int page = 0; page < due.length; page++) {
            int k = page;
            B.answers("5 page " + k + " rests on the last clerk", pages, o -> o.page(0, k, 4, 3), due[k]);
            B.answers("5 page " + k + " rests on itself", pages, o -> o.page(0, k, 0, 3), k);
        }
        Story letters = States.begun(5).then(o -> o.work(4, 1), o -> o.send(4, 1), o -> o.send(2, 0), o -> o.work(0, 1),
                o -> o.get(0, 0));
        B.answers("5 another letter is not taken", letters, o -> o.page(0, 2, 4, 3), 0);
        B.answers("5 nor put on the page ahead", letters, o -> o.page(0, 1, 4, 3), 0);
        Story behind = States.begun(5).then(o -> o.work(4, 1), o -> o.send(4, 1), o -> o.send(2, 1), o -> o.loses(0));
        Story ahead = States.begun(5).then(o -> o.send(2, 1), o -> o.work(0, 1), o -> o.send(0, 1), o -> o.loses(0));
        B.answers("13 on the last clerk", behind, o -> o.letter(1, 0, 2), 0);
        B.answers("13 behind it", behind, o -> o.letter(1, 1, 2), 0);
        B.answers("13 ahead of a dead one", ahead, o -> o.letter(1, 0, 2), 0);
        B.answers("13 the dead one", ahead, o -> o.letter(1, 1, 2), 1);
    }

    // ---- 6

    private static void writesWithin() {
        Story story = new Story().times(23, o -> o.work(2, 1));
        B.answers("6 m 1", story, o -> o.writes(2, 1), 1);
        B.answers("6 m 22, one is left", story, o -> o.writes(2, 22), 22);
        B.answers("6 m 23, all", story, o -> o.writes(2, 23), 23);
        B.answers("6 m 24, more than there are", story, o -> o.writes(2, 24), 23);
        Story some = story.then(o -> o.writes(2, 20));
        B.answers("6 one less than are left", some, o -> o.writes(2, 2), 22);
        B.answers("6 as many as are left", some, o -> o.writes(2, 3), 23);
        B.answers("6 one more than are left", some, o -> o.writes(2, 4), 23);
        Story all = story.then(o -> o.writes(2, 24));
        B.changesNothing("6 none is left", all, o -> o.writes(2, 24), 23);
        B.changesNothing("6 only page 0", new Story(), o -> o.writes(0, 1), 0);
    }

    private static void writesBad() {
        for (States s : STATES) {
            for (int c : noClerks(s.n())) bad("6 writes c " + c, s, o -> o.writes(c, 1));
            for (int m : new int[] {0, 25, -1, LEAST, MOST}) bad("6 writes m " + m, s, o -> o.writes(0, m));
        }
    }

    // ---- 7, and a loss

    private static void losesBad() {
        for (States s : STATES) {
            for (int c : noClerks(s.n())) bad("7 loses " + c, s, o -> o.loses(c));
        }
    }

    private static void losesFull() {
        Story life59 = new Story().times(59, o -> o.loses(2)).then(o -> o.work(0, 1), o -> o.work(2, 1));
        B.answers("7 in life 59", life59, o -> o.of(2, 0), 59);
        B.answers("7 a loss yet", life59, o -> o.loses(2), 1);
        B.answers("7 another's, too", life59, o -> o.loses(0), 1);
        Story life60 = life59.then(o -> o.loses(2));
        B.answers("7 in life 60", life60, o -> o.of(2, 0), 60);
        for (int c = 0; c < 3; c++) {
            int loser = c;
            B.refused("7 no loss of anyone", life60, o -> o.loses(loser), FULL);
        }
        B.refused("7 BAD comes ahead of FULL", life60, o -> o.loses(3), BAD);
        B.answers("7 the last end", life60, o -> o.end(2, 59), 0);
        Story fallen = new Story();
        for (int i = 0; i < 60; i++) fallen = fallen.then(o -> o.work(0, 1), o -> o.send(0, 1), o -> o.get(1, 0), o -> o.loses(0));
        B.answers("7 life 60 by falling with another", fallen, o -> o.of(1, 0), 60);
        B.answers("7 and his last end", fallen, o -> o.end(1, 59), 0);
        B.refused("7 full by it", fallen, o -> o.loses(2), FULL);
    }

    private static void losesNothing() {
        B.answers("7 no page goes", new Story(), o -> o.loses(0), 0);
        B.answers("7 the life is over", new Story().then(o -> o.loses(0)), o -> o.end(0, 0), 0);
        B.answers("7 a new life", new Story().then(o -> o.loses(0)), o -> o.of(0, 0), 1);
        Story written = new Story().times(3, o -> o.work(0, 1)).then(o -> o.writes(0, 3), o -> o.says(0), o -> o.loses(0));
        B.answers("7 all was written", written, o -> o.told(9), 0);
        B.answers("7 ends at now", written, o -> o.end(0, 0), 3);
        B.answers("7 nobody else", written, o -> o.of(1, 0), 0);
        B.answers("7 nothing is lost", written, o -> o.saying(0, 2), 0);
        B.answers("7 the pages keep their life", written, o -> o.page(0, 3, 0, 0), 0);
        B.answers("7 the rests, too", written, o -> o.page(0, 3, 0, 2), 0);
    }

    /** Clerk 0 has pages up to 4, up to 2 written; clerk 1 rests on his page 2, clerk 2 on his page 3. */
    private static void lossAtWhatIsWritten() {
        Story story = new Story().then(o -> o.work(0, 1), o -> o.work(0, 1), o -> o.send(0, 1), o -> o.says(0),
                o -> o.work(0, 1), o -> o.send(0, 2), o -> o.says(0), o -> o.work(0, 1), o -> o.writes(0, 2),
                o -> o.get(1, 0), o -> o.get(2, 0), o -> o.send(0, 1));
        B.answers("7 3 and 4 of 0, 1 of 2", story, o -> o.loses(0), 3);
        Story lost = story.then(o -> o.loses(0));
        B.answers("7 the written page stays", lost, o -> o.of(0, 1), 2);
        B.answers("7 what rests on it stays", lost, o -> o.of(1, 1), 1);
        B.answers("7 and lives on", lost, o -> o.of(1, 0), 0);
        B.answers("7 what rests behind it goes", lost, o -> o.of(2, 1), 0);
        B.answers("7 and is in a new life", lost, o -> o.of(2, 0), 1);
        B.answers("7 said on the written page", lost, o -> o.saying(0, 2), 0);
        B.answers("7 said on the page behind it", lost, o -> o.saying(1, 2), 2);
        B.answers("7 the letter on page 4", lost, o -> o.letter(1, 0, 2), 1);
        B.answers("7 pages that went", lost, o -> o.told(9), 3);
    }

    /** Clerk 1: page 1 of his own, page 2 rests on clerk 0, page 3; all are written. */
    private static void lossAtTheFirstDeadPage() {
        Story story = new Story().then(o -> o.work(0, 1), o -> o.send(0, 1), o -> o.work(1, 1), o -> o.says(1),
                o -> o.get(1, 0), o -> o.says(1), o -> o.work(1, 1), o -> o.writes(1, 24), o -> o.loses(0));
        B.answers("7 from the first dead page on", story, o -> o.of(1, 1), 1);
        B.answers("7 written up to now at most", story, o -> o.of(1, 2), 1);
        B.answers("7 ends there", story, o -> o.end(1, 0), 1);
        B.answers("7 said ahead of it", story, o -> o.saying(0, 2), 0);
        B.answers("7 said on it", story, o -> o.saying(1, 2), 2);
        B.answers("7 a new page of the new life", story.then(o -> o.work(1, 1)), o -> o.page(1, 2, 1, 2), 1);
        Story one = new Story().then(o -> o.work(0, 1), o -> o.send(0, 1), o -> o.work(1, 1), o -> o.work(1, 1),
                o -> o.writes(1, 1), o -> o.get(1, 0), o -> o.loses(0));
        B.answers("7 less is written than stays", one, o -> o.of(1, 2), 1);
        B.answers("7 what stays", one, o -> o.of(1, 1), 2);
    }

    /** What goes of the greatest clerk tears out pages of the least, and those of the one between. */
    private static void lossOfLeastClerkByGreatest() {
        Story story = States.begun(5).then(o -> o.work(4, 1), o -> o.send(4, 0), o -> o.get(0, 0), o -> o.send(0, 3),
                o -> o.get(3, 0), o -> o.send(3, 1), o -> o.get(1, 0), o -> o.work(2, 1));
        B.answers("7 all but one", story, o -> o.loses(4), 4);
        int[] lives = {1, 1, 0, 1, 1};
        for (int c = 0; c < 5; c++) {
            int d = c;
            B.answers("7 lives", story.then(o -> o.loses(4)), o -> o.of(d, 0), lives[c]);
            B.answers("7 once each", story.then(o -> o.loses(4)), o -> o.end(d, 1), NONE);
        }
    }

    // ---- 8

    private static void drawWithin() {
        for (int n = 2; n <= 5; n++) {
            for (int seed : new int[] {0, 1, 999998, 999999}) {
                for (int m : new int[] {1, 2, 59, 60}) {
                    B.answers("8 draw(" + seed + ", " + m + ")", States.begun(n), o -> o.draw(seed, m), drawn(n, seed, m));
                }
            }
        }
    }

    /** How many of the drawn things are done, when they are called one by one. */
    private static int drawn(int n, int seed, int m) {
        int done = 0;
        OrphanLogs o = States.begun(n).tell();
        for (Story.Call call : drawnCalls(n, seed, m)) if (call.on(o) >= NONE) done++;
        return done;
    }

    private static List<Story.Call> drawnCalls(int n, int seed, int m) {
        List<Story.Call> calls = new ArrayList<>();
        long x = seed;
        for (int i = 0; i < m; i++) {
            x = (x * 1103515245L + 12345L) % 2147483648L;
            int c = (int) (x / 65536 % n);
            int told = (int) (x / 32768 % 1000);
            switch ((int) (x / 1024 % 9)) {
                case 0, 1, 2 -> calls.add(o -> o.work(c, told));
                case 3, 4 -> calls.add(o -> o.send(c, c == n - 1 ? 0 : c + 1));
                case 5, 6 -> calls.add(o -> o.get(c, 0));
                case 7 -> calls.add(o -> o.writes(c, 2));
                default -> calls.add(o -> o.says(c));
            }
        }
        return calls;
    }

    private static void drawBad() {
        for (States s : STATES) {
            for (int seed : new int[] {-1, 1000000, LEAST, MOST}) bad("8 draw seed " + seed, s, o -> o.draw(seed, 1));
            for (int m : new int[] {0, 61, -1, LEAST, MOST}) bad("8 draw m " + m, s, o -> o.draw(0, m));
        }
    }

    private static void drawIsAsAtFirst() {
        for (States s : STATES) {
            OrphanLogs was = s.story().tell();
            Map<String, Long> kept = Map.of("told(0)", (long) was.told(0), "told(1)", (long) was.told(1),
                    "told(2)", (long) was.told(2), "told(3)", (long) was.told(3));
            for (int seed : new int[] {0, 7, 999999}) {
                for (int m : new int[] {1, 60}) {
                    Story byHand = States.begun(s.n()).then(drawnCalls(s.n(), seed, m).toArray(new Story.Call[0]));
                    B.sameBut("8 as at first, then drawn (" + s.name() + ")", byHand, s.story().then(o -> o.draw(seed, m)), kept);
                }
            }
        }
        B.answers("8 the text is what it was", States.busy(3).then(o -> o.draw(0, 1)), o -> o.told(3), States.BUSY_TEXT.length());
    }

    /** One thing of each kind, of the first clerk and of the last. */
    private static void drawOneThing() {
        for (int n = 2; n <= 5; n++) {
            int met = 0;
            for (int s = 0; s < 4000; s++) {
                int seed = s;
                long x = (s * 1103515245L + 12345L) % 2147483648L;
                int kind = (int) (x / 1024 % 9);
                int c = (int) (x / 65536 % n);
                boolean edge = c == 0 || c == n - 1;
                int bit = 1 << (kind + (c == 0 ? 0 : 9));
                if (!edge || (met & bit) != 0) continue;
                met |= bit;
                Story byHand = States.begun(n).then(drawnCalls(n, seed, 1).toArray(new Story.Call[0]));
                Map<String, Long> uncounted = Map.of("told(1)", 0L);
                B.sameBut("8 one thing of kind " + kind, byHand, States.begun(n).then(o -> o.draw(seed, 1)), uncounted);
                B.answers("8 done or not", States.begun(n), o -> o.draw(seed, 1), kind == 5 || kind == 6 ? 0 : 1);
            }
            B.due("8 all kinds were met", met, (1 << 18) - 1);
        }
    }

    /** With two clerks pages run out within 60 things; what can not be is not done and not refused. */
    private static void drawOnlyIfItCanBe() {
        int full = 0;
        for (int s = 0; s < 2000; s++) {
            int seed = s;
            OrphanLogs o = States.begun(2).tell();
            for (Story.Call call : drawnCalls(2, s, 60)) if (call.on(o) == FULL) full++;
            if (full == 0) continue;
            B.answers("8 FULL is not counted", States.begun(2), p -> p.draw(seed, 60), drawn(2, seed, 60));
            if (full > 3) break;
        }
        B.holds("8 a clerk was full", full > 0);
    }

    // ---- 9

    private static void ofBad() {
        for (States s : STATES) {
            for (int c : noClerks(s.n())) bad("9 of c " + c, s, o -> o.of(c, 0));
            for (int what : new int[] {-1, 8, LEAST, MOST}) bad("9 of what " + what, s, o -> o.of(0, what));
        }
    }

    private static void ofChangesNothing() {
        int[] due = {0, 3, 2, 2, 2, (3 * 3 + 4) * 3 + 9, 2, 1};
        for (int what = 0; what <= 7; what++) {
            int w = what;
            B.changesNothing("9 of", States.busy(2), o -> o.of(0, w), due[what]);
        }
        int[] last = {1, 1, 0, 0, 0, 48, 1, 1};
        for (int what = 0; what <= 7; what++) {
            int w = what;
            B.changesNothing("9 of the last clerk", States.busy(2), o -> o.of(1, w), last[what]);
        }
    }

    // ---- 10

    private static void pageBad() {
        for (States s : STATES) {
            for (int c : noClerks(s.n())) {
                bad("10 page c " + c, s, o -> o.page(c, 0, 0, 0));
                for (int what = 0; what <= 3; what++) {
                    int w = what;
                    bad("10 page d " + c + ", what " + w, s, o -> o.page(1, 0, c, w));
                }
                bad("10 BAD comes ahead of NO, d", s, o -> o.page(0, 24, c, 0));
            }
            for (int k : new int[] {-1, LEAST}) bad("10 page k " + k, s, o -> o.page(1, k, 0, 0));
            for (int what : new int[] {-1, 4, LEAST, MOST}) {
                bad("10 page what " + what, s, o -> o.page(1, 0, 0, what));
                bad("10 BAD comes ahead of NO, what", s, o -> o.page(0, 24, 0, what));
            }
        }
    }

    private static void pageNo() {
        Story story = new Story().times(5, o -> o.work(1, 1));
        B.changesNothing("10 the last page", story, o -> o.page(1, 5, 1, 3), 5);
        for (int k : new int[] {6, 7, 23, 24, 25, MOST}) B.refused("10 there is none", story, o -> o.page(1, k, 1, 3), NO);
        Story full = new Story().times(23, o -> o.work(1, 1));
        B.changesNothing("10 page 23", full, o -> o.page(1, 23, 1, 3), 23);
        B.refused("10 page 24", full, o -> o.page(1, 24, 1, 3), NO);
        Story lost = story.then(o -> o.writes(1, 3), o -> o.loses(1));
        B.changesNothing("10 it stayed", lost, o -> o.page(1, 3, 1, 3), 3);
        B.refused("10 it went", lost, o -> o.page(1, 4, 1, 3), NO);
    }

    private static void pageNoWhereCutOff() {
        Story story = new Story().times(5, o -> o.work(1, 1)).then(o -> o.writes(1, 3));
        B.changesNothing("10 not cut off yet", story, o -> o.page(1, 2, 1, 3), 2);
        Story cut = story.then(o -> o.cuts(1));
        B.refused("10 page 0 is cut off", cut, o -> o.page(1, 0, 1, 3), NO);
        B.refused("10 the last one cut off", cut, o -> o.page(1, 2, 1, 3), NO);
        B.changesNothing("10 the firm one", cut, o -> o.page(1, 3, 1, 3), 3);
        B.changesNothing("10 one behind it", cut, o -> o.page(1, 4, 1, 3), 4);
        B.changesNothing("10 of another nothing", cut, o -> o.page(0, 0, 0, 3), 0);
    }

    private static void pageDCountsNot() {
        Story story = States.begun(5).then(o -> o.work(4, 7), o -> o.loses(1), o -> o.send(4, 1), o -> o.get(1, 0));
        for (int other = 0; other < 5; other++) {
            int d = other;
            B.changesNothing("10 its life, whatever d", story, o -> o.page(1, 1, d, 0), 1);
            B.changesNothing("10 its sum, whatever d", story, o -> o.page(1, 1, d, 1), 7);
            B.changesNothing("10 life of d", story, o -> o.page(1, 1, d, 2), d == 1 ? 1 : 0);
            B.changesNothing("10 page of d", story, o -> o.page(1, 1, d, 3), d == 1 || d == 4 ? 1 : 0);
        }
    }

    // ---- 11 and 12

    private static void deadBad() {
        for (States s : STATES) {
            for (int c : noClerks(s.n())) bad("11 dead c " + c, s, o -> o.dead(c, 0, 0));
            for (int v : new int[] {-1, 100, LEAST, MOST}) {
                bad("11 dead l " + v, s, o -> o.dead(0, v, 0));
                bad("11 dead k " + v, s, o -> o.dead(0, 0, v));
            }
            B.changesNothing("11 l 99", s.story(), o -> o.dead(1, 99, 99), 0);
            B.changesNothing("11 k 0", s.story(), o -> o.dead(1, 0, 0), 0);
        }
    }

    /** Life 0 of clerk 0 ends on page 3, life 1 on page 4, life 2 on page 2; life 3 goes on. */
    private static void deadAtTheEnd() {
        Story story = new Story().then(o -> o.work(0, 1), o -> o.work(0, 1), o -> o.work(1, 1), o -> o.send(1, 0),
                o -> o.get(0, 0), o -> o.work(0, 1), o -> o.writes(0, 3), o -> o.loses(0), o -> o.work(0, 1),
                o -> o.work(0, 1), o -> o.writes(0, 1), o -> o.loses(0));
        B.answers("12 of life 0", story, o -> o.end(0, 0), 3);
        B.answers("12 of life 1", story, o -> o.end(0, 1), 4);
        int[][] dead = {{0, 3, 0}, {0, 4, 1}, {0, 99, 1}, {1, 3, 0}, {1, 4, 0}, {1, 5, 1}, {2, 5, 0}, {2, 99, 0}, {3, 99, 0}};
        for (int[] d : dead) B.changesNothing("11 " + d[0] + " " + d[1], story, o -> o.dead(0, d[0], d[1]), d[2]);
        Story fallen = story.then(o -> o.loses(1));
        B.answers("12 of life 2", fallen, o -> o.end(0, 2), 2);
        int[][] then = {{0, 2, 0}, {0, 3, 1}, {0, 4, 1}, {1, 2, 0}, {1, 3, 1}, {1, 4, 1}, {2, 2, 0}, {2, 3, 1}, {3, 3, 0}, {3, 99, 0}};
        for (int[] d : then) B.changesNothing("11 " + d[0] + " " + d[1] + " by a later life", fallen, o -> o.dead(0, d[0], d[1]), d[2]);
        B.changesNothing("11 another clerk's", fallen, o -> o.dead(2, 0, 99), 0);
    }

    private static void endBad() {
        for (States s : STATES) {
            for (int c : noClerks(s.n())) bad("12 end c " + c, s, o -> o.end(c, 0));
            for (int l : new int[] {-1, 100, LEAST, MOST}) bad("12 end l " + l, s, o -> o.end(0, l));
        }
    }

    private static void endNone() {
        Story story = new Story().times(3, o -> o.work(2, 1)).then(o -> o.writes(2, 2), o -> o.loses(2), o -> o.loses(2));
        B.changesNothing("12 the first", story, o -> o.end(2, 0), 2);
        B.changesNothing("12 the last that is over", story, o -> o.end(2, 1), 2);
        B.changesNothing("12 the one that goes on", story, o -> o.end(2, 2), NONE);
        B.changesNothing("12 one to come", story, o -> o.end(2, 3), NONE);
        B.changesNothing("12 life 99", story, o -> o.end(2, 99), NONE);
        B.changesNothing("12 another's", story, o -> o.end(1, 0), NONE);
        Story full = States.full(3);
        B.changesNothing("12 life 59", full, o -> o.end(1, 59), 0);
        B.changesNothing("12 life 60", full, o -> o.end(1, 60), NONE);
    }

    /** The last call that the document tells of still answers. */
    private static void the512thCall() {
        OrphanLogs o = new OrphanLogs();
        for (int i = 0; i < 511; i++) o.work(-1, 0);
        B.due("512 refused", o.told(0), 511);
        OrphanLogs p = new OrphanLogs();
        for (int i = 0; i < 511; i++) p.get(0, i);
        B.due("512 refused", p.told(1), 511);
    }
}
