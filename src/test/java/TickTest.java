/** Promise 10 and what a tick does, (a) to (e), seen through promises 12, 13, 14. */
public final class TickTest {
    private static final Check CHECK = new Check("TickTest");
    private static final int BAD = BundledLinks.BAD, NO = BundledLinks.NO, NONE = BundledLinks.NONE;

    public static void main(String[] args) {
        limits();
        whatComes();
        whatIsTooOld();
        downForgets();
        whoDecides();
        rankOfTheLowestOpen();
        rankedLinks();
        pairs();
        most();
        waiting();
        waitingAheadOfSync();
        countedAnew();
        begun();
        dealt();
        held();
        heldAndBack();
        heldTillNone();
        drainOfNought();
        CHECK.end();
    }

    private static void limits() {
        BundledLinks x = new BundledLinks();
        for (int bad : new int[] {0, -1, 41, 100, Integer.MIN_VALUE, Integer.MAX_VALUE}) {
            CHECK.due("tick(" + bad + ")", x.tick(bad), BAD);
        }
        CHECK.due("tick(1)", x.tick(1), 0);
        CHECK.due("tick(40)", x.tick(40), 1);
        CHECK.due("ticks", x.count(7), 41);
        for (int i = 0; i < 248; i++) {
            x.tick(40);
        }
        CHECK.due("ticks", x.count(7), 9961);
        CHECK.due("tick(39): one too many", x.tick(39), NO);
        CHECK.due("BAD ahead of NO", x.tick(41), BAD);
        CHECK.due("tick(38)", x.tick(38), 1);
        CHECK.due("ticks", x.count(7), 9999);
        CHECK.due("tick(1) behind the last", x.tick(1), NO);
        CHECK.due("settled() there", x.settled(), 0);
        CHECK.due("changes", x.count(8), 6);
        CHECK.due("undo()", x.undo(), 5);
        CHECK.due("tick(38) again", x.tick(38), 1);
        CHECK.due("COUNT", x.link(0, 0, 8), 9997);
    }

    private static void known(BundledLinks x, int e, int l, int... want) {
        for (int i = 0; i < want.length; i++) {
            CHECK.due("link(" + e + ", " + l + ", " + (3 + i) + ")", x.link(e, l, 3 + i), want[i]);
        }
    }

    private static void whatComes() {
        BundledLinks x = Check.laid("l1,2,3,4;l5,6,7,8;x6,9;m6,0,0;");
        known(x, 0, 0, NONE, NONE, NONE, NONE, NONE);
        x.tick(1);
        known(x, 0, 0, NONE, NONE, NONE, NONE, NONE);
        x.tell(1, 0, 0, 0);
        x.set(0, 2);
        x.tick(1);
        known(x, 0, 0, 0, 3, 4, 9, 0);
        known(x, 0, 1, 0, 7, 8, 9, 0);
        known(x, 1, 0, 0, 1, 2, 6, 0);
        known(x, 1, 1, 0, 5, 6, 6, 0);
        x.tick(1);
        known(x, 0, 0, 0, 0, 4, 9, 1);
        known(x, 0, 1, 0, 7, 8, 9, 0);
        known(x, 1, 0, 0, 1, 2, 2, 1);
    }

    private static void whatIsTooOld() {
        BundledLinks x = Check.laid("l1,1,1,1;l1,1,1,1;m6,0,0;");
        x.tick(5);
        x.mute(1, 0, 1);
        x.tick(1);
        known(x, 0, 0, 0, 1);
        x.tell(1, 0, 0, 9);
        x.tick(1);
        known(x, 0, 0, 1, 1, 1, 5, 1);
        CHECK.due("still sending", x.link(0, 0, 2), 5);
        x.tick(1);
        known(x, 0, 0, 2, 1, 1, 5, 1);
        CHECK.due("still sending; end 1 has another pair and gives no SYNC on link 1", x.bundle(0, 2), 1);
        x.tick(1);
        known(x, 0, 0, NONE, NONE, NONE, NONE, NONE);
        CHECK.due("alone", x.link(0, 0, 2), 1);
        CHECK.due("open", x.bundle(0, 0), 2);
        x.mute(1, 0, 0);
        x.tick(1);
        CHECK.due("not yet", x.link(0, 0, 3), NONE);
        x.tick(1);
        known(x, 0, 0, 0, 9, 1, 5);
        x.mute(1, 0, 1);
        x.tick(2);
        CHECK.due("age", x.link(0, 0, 3), 1);
        x.mute(1, 0, 0);
        x.tick(1);
        CHECK.due("age: nothing was sent in the tick ahead", x.link(0, 0, 3), 2);
        x.tick(1);
        CHECK.due("age anew", x.link(0, 0, 3), 0);
    }

    private static void downForgets() {
        BundledLinks x = Check.laid("l1,1,1,1;l1,1,1,1;m6,0,0;");
        x.tick(5);
        x.plug(0, 0);
        known(x, 0, 0, 0, 1, 1, 5, 1);
        CHECK.due("stays as in the last tick", x.link(0, 0, 2), 5);
        CHECK.due("stays as in the last tick", x.bundle(0, 2), 3);
        x.tick(1);
        for (int e = 0; e < 2; e++) {
            CHECK.due("down", x.link(e, 0, 2), 0);
            known(x, e, 0, NONE, NONE, NONE, NONE, NONE, NONE);
            CHECK.due("open", x.bundle(e, 0), 2);
        }
        x.plug(0, 1);
        x.tick(1);
        CHECK.due("alone: nothing was sent while it was down", x.link(0, 0, 2), 1);
        x.tick(1);
        CHECK.due("ready", x.link(0, 0, 2), 4);
        x.plug(0, 0);
        x.plug(0, 1);
        x.tick(1);
        CHECK.due("down and up between ticks: what was sent comes", x.link(0, 0, 2), 5);
        x.plug(1, 0);
        x.mute(0, 0, 1);
        x.tick(1);
        CHECK.due("sending at end 1 still", x.link(1, 0, 2), 5);
        CHECK.due("down", x.link(1, 1, 2), 0);
    }

    private static void chosen(BundledLinks x, int zero, int one) {
        CHECK.due("chosen at end 0", x.bundle(0, 1), zero);
        CHECK.due("chosen at end 1", x.bundle(1, 1), one);
    }

    private static void whoDecides() {
        String links = "l1,9,1,1;l1,1,1,9;m1,0,0;";
        BundledLinks x = Check.laid(links + "x3,4;");
        x.tick(2);
        chosen(x, 2, 2);
        x = Check.laid(links + "x4,3;");
        x.tick(2);
        chosen(x, 1, 1);
        x = Check.laid(links + "x4,4;");
        x.tick(2);
        chosen(x, 2, 2);
        x.set(1, 3);
        x.tick(1);
        chosen(x, 2, 1);
        x.tick(1);
        chosen(x, 1, 1);
        x.set(0, 3);
        x.tick(1);
        chosen(x, 2, 1);
        x.tick(1);
        chosen(x, 2, 2);
    }

    private static void rankOfTheLowestOpen() {
        BundledLinks x = Check.laid("l1,9,1,1;l1,1,1,9;l2,9,2,9;m1,0,0;x4,5;");
        x.tick(2);
        chosen(x, 2, 2);
        x.mute(1, 0, 1);
        x.tick(1);
        x.set(1, 3);
        x.tick(2);
        CHECK.due("rank of link 0 is old", x.link(0, 0, 6), 5);
        CHECK.due("rank of link 1 is new", x.link(0, 1, 6), 3);
        chosen(x, 2, 1);
        x.tick(1);
        CHECK.due("link 0 is not open", x.link(0, 0, 3), NONE);
        chosen(x, 2, 1);
        x.tell(1, 2, 1, 0);
        x.tick(2);
        CHECK.due("end 0 follows end 1 now", x.bundle(0, 1), 4);
    }

    private static void rankedLinks() {
        BundledLinks x = Check.laid("l1,5,1,0;l1,3,1,0;l1,3,1,0;l1,4,1,0;m2,0,0;x1,2;");
        x.tick(2);
        chosen(x, 6, 6);
        x.set(2, 3);
        x.tick(1);
        chosen(x, 14, 14);
        x.set(2, 1);
        x.tick(1);
        chosen(x, 2, 2);
        CHECK.due("spare", x.link(0, 2, 2), 2);
        CHECK.due("spare is not counted", x.link(0, 2, 8), NONE);
        x.tell(0, 3, 1, 0);
        x.tick(1);
        chosen(x, 8, 2);
        x.tick(1);
        chosen(x, 8, 8);
        x.set(1, 0);
        x.tick(3);
        chosen(x, 1, 1);
    }

    private static void pairs() {
        BundledLinks x = Check.laid("l1,5,2,5;l1,4,3,5;l1,6,2,6;l2,0,2,9;l2,7,2,8;l1,8,3,0;m6,0,0;x1,2;");
        x.tick(2);
        chosen(x, 24, 24);
        x.tell(0, 3, 1, 9);
        x.tell(0, 4, 1, 9);
        x.tick(2);
        chosen(x, 34, 34);
        CHECK.due("open are all", x.bundle(0, 0), 63);
        CHECK.due("spare", x.link(1, 0, 2), 2);
        x.tell(1, 0, 0, 3);
        x.tick(1);
        chosen(x, 34, 35);
        x.tick(1);
        chosen(x, 35, 35);
    }

    private static void most() {
        for (int most = 1; most <= 6; most++) {
            BundledLinks x = Check.laid("l1,1,1,1;".repeat(6) + "m" + most + ",0,0;");
            x.tick(3);
            int bits = (1 << most) - 1;
            chosen(x, bits, bits);
            CHECK.due("sending", x.bundle(0, 2), bits);
        }
    }

    private static void waiting() {
        for (int wait = 0; wait <= 9; wait++) {
            BundledLinks x = Check.laid("l1,1,1,1;m1," + wait + ",0;");
            CHECK.due("ahead of the first tick", x.link(0, 0, 2), 1);
            x.tick(1);
            CHECK.due("alone", x.link(0, 0, 2), 1);
            CHECK.due("no COUNT", x.link(0, 0, 8), NONE);
            for (int count = 0; count < wait; count++) {
                CHECK.due("not agreed", x.tick(1), 0);
                CHECK.due("waiting", x.link(0, 0, 2), 3);
                CHECK.due("COUNT", x.link(1, 0, 8), count);
                CHECK.due("no SYNC", x.link(1, 0, 7), 0);
            }
            CHECK.due("not agreed", x.tick(1), 0);
            CHECK.due("ready", x.link(0, 0, 2), 4);
            CHECK.due("COUNT", x.link(1, 0, 8), wait);
            CHECK.due("no SYNC", x.link(0, 0, 7), 0);
            CHECK.due("agreed", x.tick(1), 1);
            CHECK.due("sending", x.link(0, 0, 2), 5);
            CHECK.due("SYNC", x.link(0, 0, 7), 1);
            CHECK.due("COUNT", x.link(1, 0, 8), wait + 1);
        }
    }

    private static void waitingAheadOfSync() {
        BundledLinks x = Check.laid("l1,1,1,1;m1,3,0;");
        x.tick(6);
        CHECK.due("sending", x.link(0, 0, 2), 5);
        x.mute(1, 0, 1);
        x.tick(4);
        CHECK.due("alone", x.link(0, 0, 2), 1);
        CHECK.due("end 1 knows SYNC still", x.link(1, 0, 2), 5);
        x.mute(1, 0, 0);
        x.tick(2);
        CHECK.due("waiting, though it knows SYNC", x.link(0, 0, 2), 3);
        CHECK.due("SYNC", x.link(0, 0, 7), 1);
        CHECK.due("COUNT", x.link(0, 0, 8), 0);
        CHECK.due("end 1 is ready: end 0 sent no SYNC", x.link(1, 0, 2), 4);
        x.tick(3);
        CHECK.due("sending at once", x.link(0, 0, 2), 5);
        CHECK.due("end 1 a tick later", x.link(1, 0, 2), 4);
        x.tick(1);
        CHECK.due("end 1 sends", x.link(1, 0, 2), 5);
    }

    private static void countedAnew() {
        BundledLinks x = Check.laid("l1,1,1,1;l1,2,1,2;m1,1,0;");
        x.tick(5);
        CHECK.due("COUNT", x.link(0, 0, 8), 3);
        x.tell(0, 0, 1, 5);
        x.tick(1);
        CHECK.due("spare", x.link(0, 0, 2), 2);
        CHECK.due("no COUNT", x.link(0, 0, 8), NONE);
        CHECK.due("COUNT of the other", x.link(0, 1, 8), 0);
        CHECK.due("sends at end 1 still", x.link(1, 0, 2), 5);
        CHECK.due("not agreed", x.agreed(), 0);
        x.tell(0, 0, 1, 0);
        x.tick(1);
        CHECK.due("COUNT anew", x.link(0, 0, 8), 0);
        CHECK.due("waiting anew", x.link(0, 0, 2), 3);
    }

    private static void begun() {
        BundledLinks x = Check.laid("l1,1,1,1;l1,1,1,1;m2,0,0;");
        x.tick(2);
        CHECK.due("BEGUN", x.link(0, 0, 9), 0);
        x.tick(1);
        CHECK.due("BEGUN", x.link(0, 0, 9), 1);
        x.tick(9);
        CHECK.due("BEGUN", x.link(0, 0, 9), 1);
        for (int i = 2; i < 5; i++) {
            x.plug(0, 0);
            x.tick(1);
            x.plug(0, 1);
            x.tick(2);
            CHECK.due("BEGUN", x.link(0, 0, 9), i - 1);
            x.tick(1);
            CHECK.due("BEGUN", x.link(0, 0, 9), i);
            CHECK.due("BEGUN", x.link(1, 0, 9), i);
            CHECK.due("BEGUN of the other link", x.link(0, 1, 9), 1);
        }
        x.mute(0, 0, 1);
        x.tick(10);
        x.mute(0, 0, 0);
        x.tick(10);
        CHECK.due("BEGUN at end 1", x.link(1, 0, 9), 5);
        CHECK.due("BEGUN at end 0", x.link(0, 0, 9), 5);
        x.undo();
        CHECK.due("BEGUN undone", x.link(1, 0, 9), 4);
    }

    private static void dealt() {
        for (int n = 1; n <= 6; n++) {
            BundledLinks x = Check.laid("l1,1,1,1;".repeat(6) + "m6,0,1;");
            for (int l = 0; l < 6 - n; l++) {
                x.plug(l, 0);
            }
            x.tick(2);
            CHECK.due("no link yet", x.flow(0, 0, 0), NONE);
            x.tick(1);
            for (int e = 0; e < 2; e++) {
                for (int f = 0; f < 8; f++) {
                    int want = 6 - n + (7 * f + 3) % n;
                    CHECK.due("link of flow " + f + " of " + n, x.flow(e, f, 0), want);
                    CHECK.due("wanted by flow " + f, x.flow(e, f, 2), want);
                    CHECK.due("held", x.flow(e, f, 1), 0);
                }
            }
        }
    }

    /** Flow 1 of three links goes on link 1, of the last two (10 modulo 2) on link 1, flow 0 moves. */
    private static BundledLinks moving(int drain) {
        BundledLinks x = Check.laid("l1,1,1,1;".repeat(3) + "m6,0," + drain + ";");
        x.tick(3);
        x.plug(0, 0);
        return x;
    }

    private static void held() {
        for (int drain = 1; drain <= 9; drain++) {
            BundledLinks x = moving(drain);
            CHECK.due("not held ahead of the tick", x.flow(0, 0, 1), 0);
            for (int left = drain; left > 0; left--) {
                x.tick(1);
                CHECK.due("held", x.flow(0, 0, 1), left);
                CHECK.due("its link stays", x.flow(0, 0, 0), 0);
                CHECK.due("wants", x.flow(0, 0, 2), 2);
                CHECK.due("refused", x.frame(0, 0), NO);
                CHECK.due("flow 1 stays", x.flow(0, 1, 0), 1);
                CHECK.due("flow 1 is not held", x.flow(0, 1, 1), 0);
            }
            x.tick(1);
            CHECK.due("moved", x.flow(0, 0, 0), 2);
            CHECK.due("not held", x.flow(0, 0, 1), 0);
            CHECK.due("goes", x.frame(0, 0), 2);
        }
    }

    private static void heldAndBack() {
        BundledLinks x = moving(7);
        x.tick(1);
        CHECK.due("held", x.flow(1, 0, 1), 7);
        x.plug(0, 1);
        x.tick(3);
        CHECK.due("wants its own link", x.flow(1, 0, 2), 0);
        CHECK.due("held all the same", x.flow(1, 0, 1), 4);
        CHECK.due("refused", x.frame(1, 0), NO);
        x.tick(4);
        CHECK.due("not held", x.flow(1, 0, 1), 0);
        CHECK.due("its link", x.flow(1, 0, 0), 0);
        x = moving(3);
        x.tick(2);
        x.plug(1, 0);
        x.tick(1);
        CHECK.due("flow 1 is held later", x.flow(0, 1, 1), 3);
        CHECK.due("flow 0 not anew", x.flow(0, 0, 1), 1);
        x.tick(1);
        CHECK.due("what it wants then", x.flow(0, 0, 0), 2);
    }

    private static void heldTillNone() {
        BundledLinks x = moving(2);
        x.tick(1);
        x.plug(1, 0);
        x.plug(2, 0);
        x.tick(1);
        CHECK.due("held while it wants none", x.flow(0, 0, 1), 1);
        CHECK.due("its link", x.flow(0, 0, 0), 0);
        CHECK.due("wants none", x.flow(0, 0, 2), NONE);
        CHECK.due("held ahead of none", x.frame(0, 0), NO);
        CHECK.due("one that is not held is without at once", x.flow(0, 1, 0), NONE);
        x.tick(1);
        CHECK.due("none then", x.flow(0, 0, 0), NONE);
        CHECK.due("not held", x.flow(0, 0, 1), 0);
        CHECK.due("no link", x.frame(0, 0), NONE);
    }

    private static void drainOfNought() {
        BundledLinks x = moving(0);
        x.tick(1);
        CHECK.due("moved at once", x.flow(0, 0, 0), 2);
        CHECK.due("not held", x.flow(0, 0, 1), 0);
    }
}
