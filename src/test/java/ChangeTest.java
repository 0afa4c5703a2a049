/** Promises 6 to 9 and 11: plug, mute, tell, set, undo. */
public final class ChangeTest {
    private static final Check CHECK = new Check("ChangeTest");
    private static final int BAD = BundledLinks.BAD, NO = BundledLinks.NO, NONE = BundledLinks.NONE;
    private static final int[] FAR = {Integer.MIN_VALUE, -2, -1, 10, 11, 1000, Integer.MAX_VALUE};

    public static void main(String[] args) {
        plugging();
        muting();
        telling();
        setting();
        refusedChangesNothing();
        undoing();
        undoingTheLastSix();
        undoingTicks();
        framesAreNoChange();
        CHECK.end();
    }

    private static void plugging() {
        BundledLinks x = Check.laid("l1,1,1,1;l1,1,1,1;l1,1,1,1;");
        CHECK.due("plug(0, 1)", x.plug(0, 1), NO);
        CHECK.due("plug(0, 0)", x.plug(0, 0), 2);
        CHECK.due("plug(0, 0) again", x.plug(0, 0), NO);
        CHECK.due("plug(2, 0)", x.plug(2, 0), 1);
        CHECK.due("links that are up", x.count(1), 1);
        CHECK.due("links", x.count(0), 3);
        CHECK.due("plug(1, 0)", x.plug(1, 0), 0);
        CHECK.due("plug(2, 1)", x.plug(2, 1), 1);
        CHECK.due("plug(3, 0)", x.plug(3, 0), BAD);
        CHECK.due("plug(-1, 0)", x.plug(-1, 0), BAD);
        CHECK.due("plug(5, 1)", x.plug(5, 1), BAD);
        CHECK.due("plug(0, 2)", x.plug(0, 2), BAD);
        CHECK.due("plug(0, -1)", x.plug(0, -1), BAD);
        for (int far : FAR) {
            CHECK.due("plug of link " + far, x.plug(far, 0), BAD);
            CHECK.due("plug to " + far, x.plug(0, far), BAD);
        }
        CHECK.due("changes", x.count(8), 4);
    }

    private static void muting() {
        BundledLinks x = Check.laid("l1,1,1,1;l1,1,1,1;l1,1,1,1;");
        CHECK.due("mute(0, 0, 0)", x.mute(0, 0, 0), NO);
        CHECK.due("mute(0, 0, 1)", x.mute(0, 0, 1), 1);
        CHECK.due("mute(0, 0, 1) again", x.mute(0, 0, 1), NO);
        CHECK.due("mute(0, 2, 1)", x.mute(0, 2, 1), 2);
        CHECK.due("mute(1, 2, 1): ends are counted each", x.mute(1, 2, 1), 1);
        CHECK.due("mute(0, 0, 0)", x.mute(0, 0, 0), 1);
        CHECK.due("link(0, 0, 10)", x.link(0, 0, 10), 0);
        CHECK.due("link(0, 2, 10)", x.link(0, 2, 10), 1);
        CHECK.due("link(1, 2, 10)", x.link(1, 2, 10), 1);
        CHECK.due("link(1, 0, 10)", x.link(1, 0, 10), 0);
        CHECK.due("mute(2, 0, 1)", x.mute(2, 0, 1), BAD);
        CHECK.due("mute(0, 3, 1)", x.mute(0, 3, 1), BAD);
        CHECK.due("mute(0, 0, 2)", x.mute(0, 0, 2), BAD);
        for (int far : FAR) {
            CHECK.due("mute of end " + far, x.mute(far, 0, 1), BAD);
            CHECK.due("mute on link " + far, x.mute(0, far, 1), BAD);
            CHECK.due("mute to " + far, x.mute(0, 0, far), BAD);
        }
        CHECK.due("changes", x.count(8), 4);
        x.plug(0, 0);
        CHECK.due("mute on a link that is down", x.mute(1, 0, 1), 2);
    }

    private static void telling() {
        BundledLinks x = Check.laid("l1,2,3,4;l5,6,7,8;");
        CHECK.due("tell(0, 0, 0, 9)", x.tell(0, 0, 0, 9), 1);
        CHECK.due("tell(0, 0, 1, 0)", x.tell(0, 0, 1, 0), 2);
        CHECK.due("tell(1, 0, 0, 0)", x.tell(1, 0, 0, 0), 3);
        CHECK.due("tell(1, 1, 1, 9)", x.tell(1, 1, 1, 9), 8);
        CHECK.due("tell(1, 1, 1, 9) again", x.tell(1, 1, 1, 9), NO);
        CHECK.due("tell(1, 1, 0, 7)", x.tell(1, 1, 0, 7), NO);
        int[] want = {9, 0, 0, 4, 5, 6, 7, 9};
        for (int i = 0; i < want.length; i++) {
            CHECK.due("told " + i, x.link(i / 2 % 2, i / 4, i % 2), want[i]);
        }
        CHECK.due("tell(2, 0, 0, 1)", x.tell(2, 0, 0, 1), BAD);
        CHECK.due("tell(0, 2, 0, 1)", x.tell(0, 2, 0, 1), BAD);
        CHECK.due("tell(0, 0, 2, 1)", x.tell(0, 0, 2, 1), BAD);
        CHECK.due("tell(0, 0, 0, 10)", x.tell(0, 0, 0, 10), BAD);
        CHECK.due("tell(0, 0, 1, -1)", x.tell(0, 0, 1, -1), BAD);
        for (int far : FAR) {
            CHECK.due("tell of end " + far, x.tell(far, 0, 0, 1), BAD);
            CHECK.due("tell of link " + far, x.tell(0, far, 0, 1), BAD);
            CHECK.due("tell of " + far, x.tell(0, 0, far, 1), BAD);
            CHECK.due("tell to " + far, x.tell(0, 0, 0, far), BAD);
        }
        CHECK.due("changes", x.count(8), 4);
    }

    private static void setting() {
        BundledLinks x = Check.laid("l1,2,3,4;x3,7;m2,1,1;");
        CHECK.due("set(0, 0)", x.set(0, 0), 3);
        CHECK.due("set(1, 9)", x.set(1, 9), 7);
        CHECK.due("set(2, 6)", x.set(2, 6), 2);
        CHECK.due("set(2, 1)", x.set(2, 1), 6);
        CHECK.due("set(0, 0) again", x.set(0, 0), NO);
        CHECK.due("set(1, 9) again", x.set(1, 9), NO);
        CHECK.due("set(2, 1) again", x.set(2, 1), NO);
        CHECK.due("set(2, 0)", x.set(2, 0), BAD);
        CHECK.due("set(2, 7)", x.set(2, 7), BAD);
        CHECK.due("set(0, 10)", x.set(0, 10), BAD);
        CHECK.due("set(1, -1)", x.set(1, -1), BAD);
        CHECK.due("set(3, 1)", x.set(3, 1), BAD);
        CHECK.due("rank of end 0", x.count(2), 0);
        CHECK.due("rank of end 1", x.count(3), 9);
        CHECK.due("most", x.count(4), 1);
        CHECK.due("wait", x.count(5), 1);
        for (int far : FAR) {
            CHECK.due("set of " + far, x.set(far, 1), BAD);
            for (int what = 0; what < 3; what++) {
                CHECK.due("set to " + far, x.set(what, far), BAD);
            }
        }
        CHECK.due("changes", x.count(8), 4);
    }

    private static void refusedChangesNothing() {
        BundledLinks x = new BundledLinks();
        x.tick(7);
        x.plug(1, 0);
        String before = Check.all(x);
        x.plug(1, 0);
        x.plug(5, 0);
        x.mute(0, 0, 0);
        x.mute(0, 5, 1);
        x.tell(0, 0, 0, 1);
        x.tell(0, 0, 0, 10);
        x.set(0, 4);
        x.set(2, 7);
        x.tick(0);
        x.tick(41);
        x.frame(2, 0);
        CHECK.same("refused calls", Check.all(x), before);
    }

    private static void undoing() {
        for (int change = 0; change < 7; change++) {
            BundledLinks x = new BundledLinks();
            x.tick(7);
            String before = Check.all(x);
            CHECK.holds("change " + change, changed(x, change) >= 0);
            CHECK.due("undo() of change " + change, x.undo(), 1);
            CHECK.same("undone change " + change, Check.all(x), before);
        }
        BundledLinks x = new BundledLinks();
        x.tick(7);
        CHECK.due("undo() of the first ticks", x.undo(), 0);
        CHECK.same("all undone", Check.all(x), Check.all(new BundledLinks()));
        CHECK.due("undo() of nothing", x.undo(), NO);
        CHECK.same("refused undo", Check.all(x), Check.all(new BundledLinks()));
    }

    private static int changed(BundledLinks x, int change) {
        switch (change) {
            case 0: return x.plug(0, 0);
            case 1: return x.mute(1, 0, 1);
            case 2: return x.tell(0, 0, 0, 7);
            case 3: return x.tell(1, 0, 1, 7);
            default: return x.set(change - 4, 6);
        }
    }

    private static void undoingTheLastSix() {
        BundledLinks x = new BundledLinks();
        int[] priorities = {5, 8, 7, 0, 1, 2, 9, 6, 4, 3};
        for (int i = 0; i < 9; i++) {
            CHECK.due("tell " + i, x.tell(0, 0, 1, priorities[i + 1]), priorities[i]);
            CHECK.due("changes", x.count(8), Math.min(i + 1, 6));
        }
        for (int i = 8; i >= 3; i--) {
            CHECK.due("undo()", x.undo(), i - 3);
            CHECK.due("changes", x.count(8), i - 3);
            CHECK.due("priority then", x.link(0, 0, 1), priorities[i]);
        }
        CHECK.due("undo() of the seventh", x.undo(), NO);
        CHECK.due("priority then", x.link(0, 0, 1), priorities[3]);
        for (int i = 0; i < 4; i++) {
            x.tick(1);
        }
        CHECK.due("changes behind undone ones", x.count(8), 4);
        CHECK.due("undo()", x.undo(), 3);
        x.set(2, 5);
        x.set(2, 6);
        x.set(2, 5);
        x.set(2, 6);
        CHECK.due("the last six", x.count(8), 6);
        for (int i = 5; i >= 0; i--) {
            CHECK.due("undo()", x.undo(), i);
        }
        CHECK.due("ticks", x.count(7), 1);
        CHECK.due("most", x.count(4), 2);
        CHECK.due("undo()", x.undo(), NO);
    }

    private static void undoingTicks() {
        BundledLinks x = new BundledLinks();
        x.tick(3);
        String atThree = Check.all(x);
        x.tick(40);
        CHECK.due("ticks", x.count(7), 43);
        CHECK.due("undo() takes all ticks of a call back", x.undo(), 1);
        CHECK.same("ticks undone", Check.all(x), atThree);
        BundledLinks still = Check.laid("l1,1,1,1;");
        still.plug(0, 0);
        still.tick(1);
        still.tick(1);
        CHECK.due("changes: one by which nothing becomes another counts too", still.count(8), 3);
        CHECK.due("undo() of it", still.undo(), 2);
        CHECK.due("ticks", still.count(7), 1);
        CHECK.due("still down", still.link(0, 0, 2), 0);
        BundledLinks old = Check.laid("l1,1,1,1;l1,1,1,1;l1,1,1,1;m6,0,5;");
        old.tick(5);
        old.mute(1, 1, 1);
        old.tick(2);
        old.plug(0, 0);
        old.tick(1);
        String aging = Check.all(old);
        CHECK.due("AGE", old.link(0, 1, 3), 2);
        CHECK.due("HELD", old.flow(0, 0, 1), 5);
        old.tick(3);
        old.undo();
        CHECK.same("AGE and HELD are undone too", Check.all(old), aging);
        BundledLinks y = new BundledLinks();
        y.tick(1);
        y.undo();
        y.tick(1);
        CHECK.due("what was sent in an undone tick does not come", y.bundle(0, 0), 0);
    }

    private static void framesAreNoChange() {
        BundledLinks x = new BundledLinks();
        x.tick(9);
        CHECK.due("frame(0, 0)", x.frame(0, 0), 1);
        CHECK.due("frame(0, 2)", x.frame(0, 2), 1);
        CHECK.due("frame(1, 1)", x.frame(1, 1), 0);
        CHECK.due("changes", x.count(8), 1);
        CHECK.due("undo()", x.undo(), 0);
        CHECK.due("frames stay", x.frames(0, 1), 2);
        CHECK.due("frames stay", x.frames(1, 0), 1);
        CHECK.due("a frame now", x.frame(0, 0), NONE);
    }
}
