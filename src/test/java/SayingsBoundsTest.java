import java.util.List;

/**
 * The bounds of promises 13 to 21 and of the terms they use: letters on their way, what is told
 * to the world, cutting, what would be.
 */
final class SayingsBoundsTest {
    private static final int NONE = Bounds.NONE, BAD = Bounds.BAD, FULL = Bounds.FULL;
    private static final int LEAST = Bounds.LEAST, MOST = Bounds.MOST;
    private static final Bounds B = new Bounds("SayingsBoundsTest");
    private static final List<States> STATES = States.all();

    public static void main(String[] args) {
        letterBad();
        letterNone();
        letterTells();
        letterDeadByOneRest();
        sweepsNone();
        sweepsOnlyDeadOnes();
        saysWithin();
        saysBad();
        saysFull();
        safeAtOwnPage();
        safeAtOthersPage();
        safeOnPageZero();
        releaseByPages();
        releaseByClerksOfLikePages();
        releaseAsToldOfLikeClerks();
        releaseAllThirty();
        sayingBad();
        sayingNone();
        sayingTells();
        releasedBad();
        releasedNone();
        lostAtThePageThatStays();
        firmAtWhatIsWritten();
        cutsBad();
        cutsAheadOfTheFirmPage();
        cutsNothingIsDead();
        wouldBad();
        wouldNothing();
        wouldAtWhatIsWritten();
        wouldInLife60();
        worstBad();
        worstOfLikeOnes();
        B.close();
    }

    private static int[] noClerks(int n) {
        return new int[] {-1, n, n + 1, LEAST, MOST};
    }

    private static void bad(String label, States state, Story.Call call) {
        B.refused(label + " (" + state.name() + ")", state.story(), call, BAD);
    }

    // ---- 13 and 14

    private static void letterBad() {
        for (States s : STATES) {
            for (int d : noClerks(s.n())) bad("13 letter d " + d, s, o -> o.letter(d, 0, 0));
            for (int k : new int[] {-1, LEAST}) bad("13 letter k " + k, s, o -> o.letter(0, k, 0));
            for (int what : new int[] {-1, 4, LEAST, MOST}) {
                bad("13 letter what " + what, s, o -> o.letter(0, 0, what));
                bad("13 what is looked at though there is none", s, o -> o.letter(0, MOST, what));
            }
        }
    }

    private static void letterNone() {
        for (States s : STATES) {
            for (int c = 0; c < s.n(); c++) {
                int d = c;
                int many = s.story().tell().of(d, 6);
                for (int k : new int[] {many, many + 1, 40, 41, MOST}) {
                    for (int what = 0; what <= 3; what++) {
                        int w = what;
                        if (k >= many) B.changesNothing("13 not so many, k " + k, s.story(), o -> o.letter(d, k, w), NONE);
                    }
                }
            }
        }
        Story forty = new Story().times(40, o -> o.send(2, 1));
        B.changesNothing("13 the 40th", forty, o -> o.letter(1, 39, 0), 2);
        B.changesNothing("13 no 41st", forty, o -> o.letter(1, 40, 0), NONE);
    }

    private static void letterTells() {
        int[][] due = {{1, 5, 1, 1}, {1, 48, 0, 1}};
        for (int n : new int[] {2, 3, 5}) {
            for (int letter = 0; letter < 2; letter++) {
                int k = letter;
                for (int what = 0; what <= 3; what++) {
                    int w = what;
                    B.changesNothing("13 letter " + k + ", " + w, States.busy(n), o -> o.letter(0, k, w), due[k][w]);
                }
            }
        }
    }

    /** The letter rests on page 2 of clerk 0: written up to 2 it lives, up to 1 it does not. */
    private static void letterDeadByOneRest() {
        Story story = States.begun(5).times(3, o -> o.work(0, 1)).then(o -> o.writes(0, 2), o -> o.loses(0));
        Story sent = States.begun(5).times(2, o -> o.work(0, 1)).then(o -> o.send(0, 3), o -> o.work(0, 1));
        B.answers("13 at the end", sent.then(o -> o.writes(0, 2), o -> o.loses(0)), o -> o.letter(3, 0, 2), 0);
        B.answers("13 behind the end", sent.then(o -> o.writes(0, 1), o -> o.loses(0)), o -> o.letter(3, 0, 2), 1);
        B.answers("5 it comes", sent.then(o -> o.writes(0, 2), o -> o.loses(0)), o -> o.get(3, 0), 1);
        B.answers("5 it is thrown away", sent.then(o -> o.writes(0, 1), o -> o.loses(0)), o -> o.get(3, 0), NONE);
        Story later = story.then(o -> o.send(0, 3));
        B.answers("13 sent behind the loss, of page 2", later, o -> o.letter(3, 0, 2), 0);
        B.answers("13 rests on page 2", later, o -> o.letter(3, 0, 3), 2);
        Story anew = story.then(o -> o.work(0, 1), o -> o.send(0, 3));
        B.answers("13 page 3 of the new life lives", anew, o -> o.letter(3, 0, 2), 0);
        Story third = States.begun(5).then(o -> o.work(4, 1), o -> o.send(4, 2), o -> o.get(2, 0), o -> o.send(2, 0));
        B.answers("13 dead by a third clerk", third.then(o -> o.loses(4)), o -> o.letter(0, 0, 2), 1);
        B.answers("13 not by one it does not rest on", third.then(o -> o.loses(3)), o -> o.letter(0, 0, 2), 0);
    }

    private static void sweepsNone() {
        B.changesNothing("14 no letter", new Story(), OrphanLogs::sweeps, 0);
        B.changesNothing("14 none dead", new Story().times(40, o -> o.send(0, 1)), OrphanLogs::sweeps, 0);
        B.changesNothing("14 again", States.busy(3).then(OrphanLogs::sweeps), OrphanLogs::sweeps, 0);
    }

    private static void sweepsOnlyDeadOnes() {
        B.answers("14 one of three", States.busy(3), OrphanLogs::sweeps, 1);
        Story swept = States.busy(3).then(OrphanLogs::sweeps);
        B.answers("14 the one that lives moves up", swept, o -> o.letter(0, 0, 1), 48);
        B.answers("14 two stay", swept, o -> o.told(5), 2);
        B.answers("14 no page goes", swept, o -> o.told(9), 1);
        Story forty = new Story().then(o -> o.work(0, 1)).times(40, o -> o.send(0, 1)).then(o -> o.loses(0));
        B.answers("14 all forty", forty, OrphanLogs::sweeps, 40);
        B.answers("14 none is left", forty.then(OrphanLogs::sweeps), o -> o.told(5), 0);
        B.changesNothing("14 those that went do not go again", forty.then(OrphanLogs::sweeps), OrphanLogs::sweeps, 0);
        Story mixed = new Story().then(o -> o.work(0, 1), o -> o.send(0, 2), o -> o.send(1, 2), o -> o.send(0, 1),
                o -> o.send(0, 2), o -> o.work(1, 9), o -> o.send(1, 2), o -> o.loses(0));
        B.answers("14 three of five", mixed, OrphanLogs::sweeps, 3);
        int[][] due = {{1, 0, 0, 0}, {1, 9, 0, 1}};
        for (int letter = 0; letter < 2; letter++) {
            int k = letter;
            for (int what = 0; what <= 3; what++) {
                int w = what;
                B.answers("14 in their order", mixed.then(OrphanLogs::sweeps), o -> o.letter(2, k, w), due[k][w]);
            }
        }
    }

    // ---- 15

    private static void saysWithin() {
        for (int n = 2; n <= 5; n++) {
            int last = n - 1;
            B.answers("15 the first clerk", States.begun(n), o -> o.says(0), 1);
            B.answers("15 the last clerk", States.begun(n), o -> o.says(last), 1);
            B.answers("15 of him", States.begun(n).then(o -> o.says(last)), o -> o.of(last, 7), 1);
        }
    }

    private static void saysBad() {
        for (States s : STATES) {
            for (int c : noClerks(s.n())) bad("15 says " + c, s, o -> o.says(c));
        }
    }

    private static void saysFull() {
        Story held = new Story().times(29, o -> o.says(0));
        B.answers("15 the 30th", held, o -> o.says(1), 30);
        B.refused("15 no 31st", held.then(o -> o.says(1)), o -> o.says(1), FULL);
        B.refused("15 BAD comes ahead of FULL", held.then(o -> o.says(1)), o -> o.says(3), BAD);
        Story released = held.then(OrphanLogs::release);
        B.answers("15 the 30th, one is held", released, o -> o.says(1), 1);
        B.refused("15 released ones count", released.then(o -> o.says(1)), o -> o.says(1), FULL);
        Story lost = new Story().then(o -> o.work(0, 1)).times(29, o -> o.says(0)).then(o -> o.loses(0));
        B.answers("15 the 30th, one is held", lost, o -> o.says(0), 1);
        B.refused("15 lost ones count", lost.then(o -> o.says(0)), o -> o.says(0), FULL);
    }

    // ---- safe ones, 16 to 18

    private static void safeAtOwnPage() {
        Story story = new Story().times(2, o -> o.work(1, 1)).then(o -> o.says(1), o -> o.work(1, 1));
        B.changesNothing("17 nothing written", story, o -> o.saying(0, 3), 0);
        B.changesNothing("16 not released", story, OrphanLogs::release, 0);
        Story below = story.then(o -> o.writes(1, 1));
        B.changesNothing("17 written up to the page ahead", below, o -> o.saying(0, 3), 0);
        B.changesNothing("16 not released", below, OrphanLogs::release, 0);
        Story at = story.then(o -> o.writes(1, 2));
        B.changesNothing("17 written up to it", at, o -> o.saying(0, 3), 1);
        B.answers("16 released", at, OrphanLogs::release, 1);
        Story above = story.then(o -> o.writes(1, 3));
        B.changesNothing("17 written beyond it", above, o -> o.saying(0, 3), 1);
        B.answers("16 released", above, OrphanLogs::release, 1);
    }

    /** What is said rests on page 2 of clerk 4. */
    private static void safeAtOthersPage() {
        Story story = States.begun(5).times(2, o -> o.work(4, 1)).then(o -> o.send(4, 0), o -> o.work(4, 1),
                o -> o.get(0, 0), o -> o.says(0), o -> o.writes(0, 24));
        B.changesNothing("17 his own is written", story, o -> o.saying(0, 3), 0);
        B.changesNothing("17 one short", story.then(o -> o.writes(4, 1)), o -> o.saying(0, 3), 0);
        B.changesNothing("16 one short", story.then(o -> o.writes(4, 1)), OrphanLogs::release, 0);
        B.changesNothing("17 up to it", story.then(o -> o.writes(4, 2)), o -> o.saying(0, 3), 1);
        B.answers("16 up to it", story.then(o -> o.writes(4, 2)), OrphanLogs::release, 1);
        Story other = States.begun(5).times(2, o -> o.work(4, 1)).then(o -> o.send(4, 0), o -> o.get(0, 0),
                o -> o.says(0), o -> o.writes(4, 24));
        B.changesNothing("17 his own is not", other, o -> o.saying(0, 3), 0);
        B.answers("16 both are", other.then(o -> o.writes(0, 1)), OrphanLogs::release, 1);
    }

    private static void safeOnPageZero() {
        B.changesNothing("17 page 0 is written", new Story().then(o -> o.says(2)), o -> o.saying(0, 3), 1);
        B.answers("16 page 0", new Story().then(o -> o.says(2)), OrphanLogs::release, 1);
        B.changesNothing("16 once", new Story().then(o -> o.says(2), OrphanLogs::release), OrphanLogs::release, 0);
    }

    private static void order(String label, Story story, int... due) {
        B.answers(label, story, OrphanLogs::release, due.length);
        Story released = story.then(OrphanLogs::release);
        for (int i = 0; i < due.length; i++) {
            int k = i;
            B.changesNothing(label + ", the " + k + "-th", released, o -> o.released(k), due[k]);
        }
        B.changesNothing(label + ", no more", released, o -> o.released(due.length), NONE);
    }

    /** A lesser page of a greater clerk, told later, yet comes first. */
    private static void releaseByPages() {
        order("16 by pages rising", new Story().then(o -> o.work(0, 1), o -> o.work(0, 1), o -> o.says(0), o -> o.work(2, 1),
                o -> o.says(2), o -> o.says(1), o -> o.writes(0, 24), o -> o.writes(2, 24)), 2, 1, 0);
    }

    private static void releaseByClerksOfLikePages() {
        order("16 by clerks", new Story().then(o -> o.says(2), o -> o.says(1), o -> o.says(0)), 2, 1, 0);
        order("16 by clerks on page 1", new Story().then(o -> o.work(2, 1), o -> o.work(0, 1), o -> o.says(2), o -> o.says(0),
                o -> o.says(1), o -> o.writes(0, 1), o -> o.writes(2, 1)), 2, 1, 0);
    }

    private static void releaseAsToldOfLikeClerks() {
        order("16 as they were told", new Story().then(o -> o.says(1), o -> o.says(0), o -> o.says(1), o -> o.says(0),
                o -> o.says(1)), 1, 3, 0, 2, 4);
        Story before = new Story().then(o -> o.says(2), OrphanLogs::release, o -> o.says(1), o -> o.says(0));
        B.answers("16 later ones", before, OrphanLogs::release, 2);
        int[] due = {0, 2, 1};
        for (int i = 0; i < 3; i++) {
            int k = i;
            B.answers("18 behind earlier ones", before.then(OrphanLogs::release), o -> o.released(k), due[k]);
        }
    }

    private static void releaseAllThirty() {
        Story story = new Story().times(30, o -> o.says(0));
        B.answers("16 thirty", story, OrphanLogs::release, 30);
        B.answers("18 the last", story.then(OrphanLogs::release), o -> o.released(29), 29);
        B.answers("18 no more", story.then(OrphanLogs::release), o -> o.released(30), NONE);
        B.answers("25 none held", story.then(OrphanLogs::release), o -> o.told(7), 0);
    }

    private static void sayingBad() {
        for (States s : STATES) {
            for (int k : new int[] {-1, LEAST}) bad("17 saying k " + k, s, o -> o.saying(k, 0));
            for (int what : new int[] {-1, 4, LEAST, MOST}) {
                bad("17 saying what " + what, s, o -> o.saying(0, what));
                bad("17 what is looked at though there is none", s, o -> o.saying(MOST, what));
            }
        }
    }

    private static void sayingNone() {
        for (States s : STATES) {
            int many = s.story().tell().told(6);
            for (int k : new int[] {many, many + 1, 30, 31, MOST}) {
                for (int what = 0; what <= 3; what++) {
                    int w = what;
                    if (k >= many) B.changesNothing("17 not so many, k " + k, s.story(), o -> o.saying(k, w), NONE);
                }
            }
        }
        B.changesNothing("17 the 30th", States.full(3), o -> o.saying(29, 0), 2);
        B.changesNothing("17 no 31st", States.full(3), o -> o.saying(30, 0), NONE);
    }

    /** Safe is told of held ones alone, though the page of a released one is written and a lost one's is there anew. */
    private static void sayingTells() {
        int[][] due = {{1, 1, 2, 0}, {0, 2, 1, 0}, {0, 3, 0, 0}, {1, 0, 0, 1}};
        for (int saying = 0; saying < 4; saying++) {
            int k = saying;
            for (int what = 0; what <= 3; what++) {
                int w = what;
                B.changesNothing("17 saying " + k + ", " + w, States.busy(3), o -> o.saying(k, w), due[k][w]);
            }
        }
        Story written = States.busy(3).then(o -> o.writes(0, 24), o -> o.writes(1, 24));
        B.changesNothing("17 a lost one is not safe", written, o -> o.saying(0, 3), 0);
        B.changesNothing("17 a released one is not", written, o -> o.saying(1, 3), 0);
        B.changesNothing("17 a held one is", written, o -> o.saying(2, 3), 1);
        B.answers("16 the held ones alone", written, OrphanLogs::release, 2);
    }

    private static void releasedBad() {
        for (States s : STATES) {
            for (int k : new int[] {-1, LEAST}) bad("18 released " + k, s, o -> o.released(k));
        }
    }

    private static void releasedNone() {
        for (States s : STATES) {
            int many = s.story().tell().told(8);
            for (int k : new int[] {many, many + 1, 30, MOST}) {
                B.changesNothing("18 not so many, k " + k, s.story(), o -> o.released(k), NONE);
            }
        }
        B.changesNothing("18 the only one", States.busy(3), o -> o.released(0), 1);
    }

    private static void lostAtThePageThatStays() {
        Story story = new Story().then(o -> o.work(1, 1), o -> o.says(1), o -> o.work(1, 1), o -> o.says(1), o -> o.writes(1, 1));
        B.answers("20 one would be lost", story, o -> o.would(1, 2), 1);
        B.answers("17 on the page that stays", story.then(o -> o.loses(1)), o -> o.saying(0, 2), 0);
        B.answers("17 on the page that goes", story.then(o -> o.loses(1)), o -> o.saying(1, 2), 2);
        Story released = story.then(OrphanLogs::release, o -> o.loses(1));
        B.answers("17 a released one stays so", released, o -> o.saying(0, 2), 1);
        B.answers("17 of another clerk, on a like page", new Story().then(o -> o.work(0, 1), o -> o.says(0), o -> o.work(1, 1),
                o -> o.says(1), o -> o.loses(1)), o -> o.saying(0, 2), 0);
    }

    // ---- 19

    /** Page 1 is his own, page 2 rests on page 1 of clerk 0, page 3 follows. */
    private static void firmAtWhatIsWritten() {
        Story story = new Story().then(o -> o.work(0, 1), o -> o.send(0, 1), o -> o.work(1, 1), o -> o.get(1, 0), o -> o.work(1, 1));
        B.answers("9 nothing written: page 0", story, o -> o.of(1, 3), 0);
        B.answers("9 up to 1", story.then(o -> o.writes(1, 1)), o -> o.of(1, 3), 1);
        B.answers("9 up to 2, but it rests on 0", story.then(o -> o.writes(1, 2)), o -> o.of(1, 3), 1);
        B.answers("9 all his own", story.then(o -> o.writes(1, 3)), o -> o.of(1, 3), 1);
        B.answers("9 of 0 alone", story.then(o -> o.writes(0, 1)), o -> o.of(1, 3), 0);
        B.answers("9 of 0, his own up to 2", story.then(o -> o.writes(0, 1), o -> o.writes(1, 2)), o -> o.of(1, 3), 2);
        B.answers("9 all", story.then(o -> o.writes(0, 1), o -> o.writes(1, 3)), o -> o.of(1, 3), 3);
    }

    private static void cutsBad() {
        for (States s : STATES) {
            for (int c : noClerks(s.n())) bad("19 cuts " + c, s, o -> o.cuts(c));
        }
    }

    private static void cutsAheadOfTheFirmPage() {
        B.changesNothing("19 the firm page is page 0", new Story().times(23, o -> o.work(0, 1)), o -> o.cuts(0), 0);
        B.changesNothing("19 a new object", new Story(), o -> o.cuts(2), 0);
        Story story = new Story().times(23, o -> o.work(0, 1)).then(o -> o.writes(0, 1));
        B.answers("19 page 0 alone", story, o -> o.cuts(0), 1);
        B.answers("19 the firm page is the least", story.then(o -> o.cuts(0)), o -> o.of(0, 4), 1);
        B.changesNothing("19 no more", story.then(o -> o.cuts(0)), o -> o.cuts(0), 0);
        Story all = story.then(o -> o.writes(0, 24));
        B.answers("19 all but now", all, o -> o.cuts(0), 23);
        B.answers("19 all but now, one was cut", story.then(o -> o.cuts(0), o -> o.writes(0, 24)), o -> o.cuts(0), 22);
        B.answers("19 now stays", all.then(o -> o.cuts(0)), o -> o.page(0, 23, 0, 3), 23);
        B.answers("19 now is where it was", all.then(o -> o.cuts(0)), o -> o.of(0, 1), 23);
        B.changesNothing("19 of another nothing", all.then(o -> o.cuts(0)), o -> o.cuts(1), 0);
        for (int n = 2; n <= 5; n++) {
            int last = n - 1;
            B.answers("19 of the last clerk", States.begun(n).then(o -> o.work(last, 1), o -> o.writes(last, 1)),
                    o -> o.cuts(last), 1);
        }
    }

    /** Whoever loses, the firm page of the one who has cut off his pages stays. */
    private static void cutsNothingIsDead() {
        Story story = new Story().then(o -> o.work(0, 1), o -> o.send(0, 1), o -> o.get(1, 0), o -> o.work(1, 1),
                o -> o.writes(0, 1), o -> o.writes(1, 2), o -> o.work(0, 1), o -> o.send(0, 1), o -> o.get(1, 0), o -> o.cuts(1));
        B.answers("19 cut off up to 1", story, o -> o.of(1, 4), 2);
        B.answers("19 only what is not firm goes", story, o -> o.loses(0), 2);
        B.answers("19 the firm one stays", story.then(o -> o.loses(0)), o -> o.of(1, 1), 2);
        B.answers("19 still cut off", story.then(o -> o.loses(0)), o -> o.of(1, 4), 2);
        B.answers("19 firm as it was", story.then(o -> o.loses(0)), o -> o.of(1, 3), 2);
        B.answers("19 nothing of it is dead", story.then(o -> o.loses(0), o -> o.loses(1)), o -> o.dead(1, 0, 1), 0);
        Story said = new Story().then(o -> o.says(0), o -> o.work(0, 1), o -> o.writes(0, 1), o -> o.cuts(0));
        B.answers("17 said on a page cut off, safe", said, o -> o.saying(0, 3), 1);
        B.answers("16 and released", said, OrphanLogs::release, 1);
    }

    // ---- 20 and 21

    private static void wouldBad() {
        for (States s : STATES) {
            for (int c : noClerks(s.n())) {
                for (int what = 0; what <= 2; what++) {
                    int w = what;
                    bad("20 would c " + c, s, o -> o.would(c, w));
                }
            }
            for (int what : new int[] {-1, 3, LEAST, MOST}) bad("20 would what " + what, s, o -> o.would(0, what));
        }
    }

    private static void wouldNothing() {
        int[] due = {0, 1, 0};
        for (int what = 0; what <= 2; what++) {
            int w = what;
            B.changesNothing("20 nothing to lose", new Story().then(o -> o.says(1)), o -> o.would(1, w), due[w]);
            B.changesNothing("20 all is written", new Story().then(o -> o.work(1, 1), o -> o.says(1), o -> o.writes(1, 1)),
                    o -> o.would(1, w), due[w]);
        }
    }

    /** Clerk 1 rests on page 2 of clerk 0, clerk 2 on his page 1; each has said something there. */
    private static void wouldAtWhatIsWritten() {
        Story story = new Story().then(o -> o.work(0, 1), o -> o.send(0, 2), o -> o.work(0, 1), o -> o.send(0, 1),
                o -> o.get(1, 0), o -> o.get(2, 0), o -> o.says(0), o -> o.says(1), o -> o.says(2));
        int[][] due = {{4, 3, 3}, {2, 2, 2}, {0, 1, 0}};
        for (int written = 0; written <= 2; written++) {
            Story so = written == 0 ? story : story.times(written, o -> o.writes(0, 1));
            for (int what = 0; what <= 2; what++) {
                int w = what;
                B.changesNothing("20 written up to " + written + ", " + w, so, o -> o.would(0, w), due[written][w]);
            }
            B.answers("20 as the loss does", so, o -> o.loses(0), due[written][0]);
        }
        Story released = new Story().then(o -> o.says(0), OrphanLogs::release, o -> o.work(0, 1), o -> o.says(0));
        B.changesNothing("20 held ones alone", released, o -> o.would(0, 2), 1);
        Story lost = new Story().then(o -> o.work(0, 1), o -> o.says(0), o -> o.loses(0), o -> o.work(0, 1));
        B.changesNothing("20 lost ones are not lost again", lost, o -> o.would(0, 2), 0);
    }

    private static void wouldInLife60() {
        Story story = new Story().times(60, o -> o.loses(0)).then(o -> o.work(0, 1), o -> o.says(0), o -> o.work(1, 1));
        B.refused("7 no loss", story, o -> o.loses(1), FULL);
        for (int what = 0; what <= 2; what++) {
            int w = what;
            B.changesNothing("20 in life 60", story, o -> o.would(0, w), 1);
        }
        B.changesNothing("21 in life 60", story, o -> o.worst(1), 1);
        B.changesNothing("21 in life 60", story, o -> o.worst(0), 0);
    }

    private static void worstBad() {
        for (States s : STATES) {
            for (int what : new int[] {-1, 2, LEAST, MOST}) bad("21 worst " + what, s, o -> o.worst(what));
        }
    }

    private static void worst(Story story, int clerk, int many) {
        B.changesNothing("21 who", story, o -> o.worst(0), clerk);
        B.changesNothing("21 how many", story, o -> o.worst(1), many);
    }

    private static void worstOfLikeOnes() {
        for (int n = 2; n <= 5; n++) {
            int last = n - 1;
            worst(States.begun(n), 0, 0);
            worst(States.begun(n).then(o -> o.work(last, 1)), last, 1);
            worst(States.begun(n).then(o -> o.work(last, 1), o -> o.work(0, 1)), 0, 1);
            worst(States.begun(n).then(o -> o.work(last, 1), o -> o.work(0, 1), o -> o.work(last, 1)), last, 2);
        }
        Story five = States.begun(5).then(o -> o.work(4, 1), o -> o.work(3, 1), o -> o.work(2, 1));
        worst(five, 2, 1);
        worst(five.then(o -> o.writes(2, 1)), 3, 1);
        worst(five.then(o -> o.send(4, 0), o -> o.get(0, 0)), 4, 2);
        worst(new Story().times(23, o -> o.work(0, 1)).times(23, o -> o.work(1, 1)), 0, 23);
    }
}
