/** Promises 12 to 19: link, bundle, flow, frame, frames, agreed, settled, count. */
public final class LookTest {
    private static final Check CHECK = new Check("LookTest");
    private static final int BAD = BundledLinks.BAD, NO = BundledLinks.NO, NONE = BundledLinks.NONE;
    private static final int[] FAR = {Integer.MIN_VALUE, -4, -2, -1, 11, 12, 1000, Integer.MAX_VALUE};

    public static void main(String[] args) {
        wrongNumbers();
        linkOfADefault();
        bundleBits();
        asInTheLastTick();
        frames();
        agreed();
        agreedIsOfThoseThatSend();
        settled();
        settledAtEachEnd();
        settledChangesNothing();
        counts();
        CHECK.end();
    }

    private static void wrongNumbers() {
        BundledLinks x = Check.laid("l1,1,1,1;l1,1,1,1;");
        x.tick(7);
        for (int far : FAR) {
            CHECK.due("link of end " + far, x.link(far, 0, 0), BAD);
            CHECK.due("link " + far, x.link(0, far, 0), BAD);
            CHECK.due("link's " + far, x.link(0, 0, far), BAD);
            CHECK.due("bundle of end " + far, x.bundle(far, 0), BAD);
            CHECK.due("bundle's " + far, x.bundle(0, far), BAD);
            CHECK.due("flow of end " + far, x.flow(far, 0, 0), BAD);
            CHECK.due("flow " + far, x.flow(0, far, 0), BAD);
            CHECK.due("flow's " + far, x.flow(0, 0, far), BAD);
            CHECK.due("frame at end " + far, x.frame(far, 0), BAD);
            CHECK.due("frame of flow " + far, x.frame(0, far), BAD);
            CHECK.due("frames of end " + far, x.frames(far, 0), BAD);
            CHECK.due("frames of link " + far, x.frames(0, far), BAD);
            CHECK.due("count " + far, x.count(far), BAD);
        }
        CHECK.due("link(2, 0, 0)", x.link(2, 0, 0), BAD);
        CHECK.due("link(0, 2, 0)", x.link(0, 2, 0), BAD);
        CHECK.due("link(0, 5, 0)", x.link(0, 5, 0), BAD);
        CHECK.due("link(0, 1, 10)", x.link(0, 1, 10), 0);
        CHECK.due("bundle(2, 0)", x.bundle(2, 0), BAD);
        CHECK.due("bundle(0, 3)", x.bundle(0, 3), BAD);
        CHECK.due("flow(2, 0, 0)", x.flow(2, 0, 0), BAD);
        CHECK.due("flow(0, 8, 0)", x.flow(0, 8, 0), BAD);
        CHECK.due("flow(0, 0, 3)", x.flow(0, 0, 3), BAD);
        CHECK.due("flow(0, 7, 2)", x.flow(0, 7, 2), 0);
        CHECK.due("frame(2, 0)", x.frame(2, 0), BAD);
        CHECK.due("frame(0, 8)", x.frame(0, 8), BAD);
        CHECK.due("frame(1, 7)", x.frame(1, 7), 0);
        CHECK.due("frames(2, 0)", x.frames(2, 0), BAD);
        CHECK.due("frames(0, 2)", x.frames(0, 2), BAD);
        CHECK.due("count(10)", x.count(10), BAD);
    }

    private static void linkOfADefault() {
        BundledLinks x = new BundledLinks();
        int[] ahead = {1, 5, 1, NONE, NONE, NONE, NONE, NONE, NONE, 0, 0};
        int[] behind = {1, 5, 5, 0, 2, 5, 5, 1, 3, 1, 0};
        int[] other = {3, 5, 2, 0, 1, 5, 4, 0, NONE, 0, 0};
        for (int what = 0; what <= 10; what++) {
            CHECK.due("link(0, 0, " + what + ") at first", x.link(0, 0, what), ahead[what]);
        }
        x.tick(5);
        for (int what = 0; what <= 10; what++) {
            CHECK.due("link(0, 0, " + what + ")", x.link(0, 0, what), behind[what]);
            CHECK.due("link(1, 3, " + what + ")", x.link(1, 3, what), other[what]);
        }
    }

    private static void bundleBits() {
        BundledLinks x = Check.laid("l1,1,1,1;".repeat(6) + "m6,1,0;");
        for (int what = 0; what < 3; what++) {
            CHECK.due("none ahead of the first tick", x.bundle(0, what), 0);
        }
        x.plug(1, 0);
        x.mute(1, 3, 1);
        x.tick(4);
        CHECK.due("open at end 0", x.bundle(0, 0), 0b110101);
        CHECK.due("chosen at end 0", x.bundle(0, 1), 0b110101);
        CHECK.due("sending at end 0", x.bundle(0, 2), 0b110101);
        CHECK.due("open at end 1", x.bundle(1, 0), 0b111101);
        CHECK.due("chosen at end 1", x.bundle(1, 1), 0b111101);
        CHECK.due("sending at end 1", x.bundle(1, 2), 0b110101);
        CHECK.due("ready at end 1: end 0 hears nothing there", x.link(1, 3, 2), 4);
        x.undo();
        CHECK.due("none again", x.bundle(0, 0), 0);
    }

    private static void asInTheLastTick() {
        BundledLinks x = Check.laid("l1,1,1,1;l1,1,1,1;m6,0,2;");
        x.tick(5);
        x.frame(0, 0);
        x.plug(0, 0);
        x.plug(1, 0);
        x.set(2, 1);
        x.tell(0, 0, 0, 5);
        x.mute(0, 1, 1);
        CHECK.due("key is told anew at once", x.link(0, 0, 0), 5);
        CHECK.due("HOW", x.link(0, 0, 2), 5);
        CHECK.due("AGE", x.link(0, 0, 3), 0);
        CHECK.due("COUNT", x.link(0, 0, 8), 3);
        CHECK.due("open", x.bundle(0, 0), 3);
        CHECK.due("chosen", x.bundle(0, 1), 3);
        CHECK.due("sending", x.bundle(0, 2), 3);
        CHECK.due("flow's link", x.flow(0, 0, 0), 1);
        CHECK.due("flow wants", x.flow(0, 0, 2), 1);
        CHECK.due("agreed", x.agreed(), 1);
        CHECK.due("a frame goes on a link that is unplugged since", x.frame(0, 0), 1);
        CHECK.due("tick", x.tick(1), 0);
        CHECK.due("no link then", x.frame(0, 0), NONE);
        CHECK.due("not agreed then", x.agreed(), 0);
        CHECK.due("frames", x.frames(0, 1), 2);
    }

    private static void frames() {
        BundledLinks x = Check.laid("l1,1,1,1;".repeat(6) + "m6,0,1;");
        CHECK.due("no link ahead of ticks", x.frame(0, 0), NONE);
        x.tick(3);
        for (int e = 0; e < 2; e++) {
            for (int f = 0; f < 8; f++) {
                for (int i = 0; i <= f + e; i++) {
                    CHECK.due("frame(" + e + ", " + f + ")", x.frame(e, f), (7 * f + 3) % 6);
                }
            }
        }
        // flows 0 .. 7 go on links 3, 4, 5, 0, 1, 2, 3, 4
        int[] zero = {4, 5, 6, 1 + 7, 2 + 8, 3};
        int[] one = {5, 6, 7, 2 + 8, 3 + 9, 4};
        for (int l = 0; l < 6; l++) {
            CHECK.due("frames(0, " + l + ")", x.frames(0, l), zero[l]);
            CHECK.due("frames(1, " + l + ")", x.frames(1, l), one[l]);
        }
        x.plug(0, 0);
        x.tick(1);
        CHECK.due("held", x.frame(0, 3), NO);
        CHECK.due("refused ones are not counted", x.frames(0, 0), 4);
        x.tick(9);
        CHECK.due("frames stay over ticks", x.frames(0, 3), 8);
        x.lay();
        for (int l = 0; l < 6; l++) {
            CHECK.due("frames since LAID", x.frames(0, l), 0);
            CHECK.due("frames since LAID", x.frames(1, l), 0);
        }
    }

    private static void agreed() {
        BundledLinks x = Check.laid("l1,1,1,1;l1,1,1,1;m2,0,0;");
        CHECK.due("none sends", x.agreed(), 0);
        CHECK.due("tick(2)", x.tick(2), 0);
        CHECK.due("tick(1)", x.tick(1), 1);
        CHECK.due("agreed", x.agreed(), 1);
        x.plug(0, 0);
        CHECK.due("one sends", x.tick(1), 1);
        x.mute(0, 1, 1);
        CHECK.due("heard still", x.tick(3), 1);
        CHECK.due("end 1 hears nothing", x.tick(1), 0);
        CHECK.due("sending at end 0", x.bundle(0, 2), 2);
        CHECK.due("sending at end 1", x.bundle(1, 2), 0);
        CHECK.due("not agreed", x.agreed(), 0);
        CHECK.due("none sends", x.tick(1), 0);
        CHECK.due("sending at end 0", x.bundle(0, 2), 0);
    }

    /** The decider e drops link 0 and takes it again while the other end hears nothing of it. */
    private static void agreedIsOfThoseThatSend() {
        for (int e = 0; e < 2; e++) {
            BundledLinks x = Check.laid("l1,1,1,1;l1,2,1,2;m1,1,0;" + (e == 0 ? "x4,5;" : "x5,4;"));
            CHECK.due("agreed", x.tick(6), 1);
            x.mute(e, 0, 1);
            CHECK.due("agreed", x.tick(1), 1);
            x.tell(e, 0, 1, 5);
            CHECK.due("not agreed", x.tick(1), 0);
            x.tell(e, 0, 1, 1);
            CHECK.due("chosen is not enough", x.tick(1), 0);
            CHECK.due("chosen", x.bundle(e, 1), 1);
            CHECK.due("sending", x.bundle(e, 2), 0);
            CHECK.due("sending at the other end", x.bundle(1 - e, 2), 1);
            CHECK.due("not agreed", x.agreed(), 0);
        }
    }

    private static void settled() {
        for (int wait = 0; wait <= 5; wait++) {
            BundledLinks x = Check.laid("l1,1,1,1;m1," + wait + ",0;");
            CHECK.due("settled() of WAIT " + wait, x.settled(), 3 + wait);
            x.tick(2);
            CHECK.due("settled() two later", x.settled(), 1 + wait);
            x.tick(10);
            CHECK.due("settled() much later", x.settled(), 0);
        }
        CHECK.due("six ticks of waiting are not enough", Check.laid("l1,1,1,1;m1,6,0;").settled(), 9);
        CHECK.due("seven are", Check.laid("l1,1,1,1;m1,7,0;").settled(), 2);
        BundledLinks x = Check.laid("l1,1,1,1;");
        x.mute(0, 0, 1);
        x.mute(1, 0, 1);
        CHECK.due("nothing is ever heard", x.settled(), 0);
        x.plug(0, 0);
        CHECK.due("down from the next tick on", x.settled(), 1);
        for (int drain = 1; drain <= 5; drain++) {
            x = Check.laid("l1,1,1,1;".repeat(3) + "m6,0," + drain + ";");
            x.tick(9);
            x.plug(0, 0);
            CHECK.due("settled() of flows that are held", x.settled(), 1 + drain);
        }
        x = Check.laid("l1,1,1,1;".repeat(3) + "m6,0,9;");
        x.tick(9);
        x.plug(0, 0);
        CHECK.due("links of flows stay while they are held for long", x.settled(), 1);
        x = Check.laid("l1,1,1,1;".repeat(3) + "m6,0,9;");
        x.tick(9);
        x.mute(1, 0, 1);
        x.tick(1);
        CHECK.due("end 1 changes later than end 0", x.settled(), 4);
    }

    private static void settledAtEachEnd() {
        for (int e = 0; e < 2; e++) {
            BundledLinks x = Check.laid("l1,1,1,1;l1,1,1,1;m1,0,0;");
            x.mute(e, 1, 1);
            x.tick(9);
            CHECK.due("settled()", x.settled(), 0);
            CHECK.due("alone at one end", x.link(1 - e, 1, 2), 1);
            CHECK.due("spare at the other", x.link(e, 1, 2), 2);
            x.mute(1 - e, 1, 1);
            CHECK.due("one end alone changes", x.settled(), 4);
        }
    }

    private static void settledChangesNothing() {
        for (int ticks = 1; ticks < 9; ticks++) {
            BundledLinks x = new BundledLinks();
            x.tick(ticks);
            x.plug(ticks % 5, 0);
            String before = Check.all(x);
            x.settled();
            CHECK.same("settled() changes nothing", Check.all(x), before);
        }
    }

    private static void counts() {
        BundledLinks x = Check.laid("l1,1,1,1;l1,1,1,1;l1,1,1,1;x8,7;m5,4,3;");
        x.write('x');
        x.plug(1, 0);
        x.tick(9);
        int[] want = {3, 2, 8, 7, 5, 4, 3, 9, 2, 40};
        for (int what = 0; what < want.length; what++) {
            CHECK.due("count(" + what + ")", x.count(what), want[what]);
        }
    }
}
