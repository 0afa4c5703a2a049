/** Promises 1 to 5: a new object, write, wipe, fault, lay. */
public final class TextTest {
    private static final Check CHECK = new Check("TextTest");
    private static final String FIRST = "l1,5,2,5;l1,3,2,4;l1,5,2,1;l1,5,3,5;l1,6,2,6;x4,5;m2,2,1;";

    public static void main(String[] args) {
        newObject();
        writing();
        wiping();
        faults();
        laying();
        layingStartsAnew();
        layingRefused();
        CHECK.end();
    }

    private static void newObject() {
        BundledLinks x = new BundledLinks();
        int[] counts = {5, 5, 4, 5, 2, 2, 1, 0, 0, 0};
        for (int what = 0; what < counts.length; what++) {
            CHECK.due("count(" + what + ") of a new object", x.count(what), counts[what]);
        }
        int[][] told = {{1, 5, 2, 5}, {1, 3, 2, 4}, {1, 5, 2, 1}, {1, 5, 3, 5}, {1, 6, 2, 6}};
        for (int l = 0; l < told.length; l++) {
            for (int i = 0; i < 4; i++) {
                CHECK.due("link " + l + " number " + i, x.link(i / 2, l, i % 2), told[l][i]);
            }
        }
        CHECK.due("fault() of an empty text", x.fault(), BundledLinks.NONE);
        CHECK.due("undo() of a new object", x.undo(), BundledLinks.NO);
        CHECK.due("lay() of an empty text", x.lay(), BundledLinks.NO);
        CHECK.due("wipe() of an empty text", x.wipe(), 0);
        for (int e = 0; e < 2; e++) {
            for (int f = 0; f < 8; f++) {
                CHECK.due("flow's link", x.flow(e, f, 0), BundledLinks.NONE);
                CHECK.due("flow's hold", x.flow(e, f, 1), 0);
                CHECK.due("flow's want", x.flow(e, f, 2), BundledLinks.NONE);
            }
        }
        BundledLinks y = Check.laid(FIRST);
        y.wipe();
        CHECK.same("a new object", Check.all(new BundledLinks()), Check.all(y));
    }

    private static void writing() {
        BundledLinks x = new BundledLinks();
        for (int bad : new int[] {31, 127, 0, -1, 128, 10, Integer.MIN_VALUE, Integer.MAX_VALUE, 65536 + 108}) {
            CHECK.due("write(" + bad + ")", x.write(bad), BundledLinks.BAD);
        }
        CHECK.due("letters", x.count(9), 0);
        CHECK.due("write(32)", x.write(32), 1);
        CHECK.due("write(126)", x.write(126), 2);
        for (int i = 3; i <= 200; i++) {
            CHECK.due("write of letter " + i, x.write(32 + i % 95), i);
        }
        CHECK.due("write of letter 201", x.write('l'), BundledLinks.FULL);
        CHECK.due("BAD ahead of FULL", x.write(31), BundledLinks.BAD);
        CHECK.due("letters when full", x.count(9), 200);
        CHECK.due("wipe() of a full text", x.wipe(), 200);
        CHECK.due("write behind wipe", x.write('l'), 1);
    }

    private static void wiping() {
        BundledLinks x = new BundledLinks();
        Check.type(x, "l1,2");
        CHECK.due("wipe()", x.wipe(), 4);
        CHECK.due("letters", x.count(9), 0);
        CHECK.due("wipe() again", x.wipe(), 0);
        CHECK.due("fault() behind wipe", x.fault(), BundledLinks.NONE);
        Check.type(x, "l");
        CHECK.due("what was wiped is not read any more", x.fault(), 0);
    }

    private static void fault(String text, int want) {
        BundledLinks x = new BundledLinks();
        Check.type(x, text);
        CHECK.due("fault() of " + text, x.fault(), want);
        CHECK.due("fault() again of " + text, x.fault(), want);
        if (want != BundledLinks.NONE) {
            CHECK.due("lay() of " + text, x.lay(), BundledLinks.NO);
        }
    }

    private static void faults() {
        int none = BundledLinks.NONE;
        fault(FIRST, none);
        fault("l0,0,0,0;", none);
        fault("l9,9,9,9;", none);
        fault("x0,9;", none);
        fault("m1,0,0;m6,9,9;", none);
        fault("x1,1;m1,1,1;x2,2;m2,2,2;l1,1,1,1;", none);
        fault("l1,1,1,1;".repeat(6), none);
        fault("l1,1,1,1;".repeat(6) + "x1,1;l1,1,1,1;", 59);
        fault("l1,1,1,1;".repeat(7) + "q;", 54);
        fault("l1,1,1,1;".repeat(6) + "q;" + "l1,1,1,1;", 54);
        fault("x1,1;".repeat(40), none);
        fault("x1,1;".repeat(39) + "x1,1:", 195);
        for (String bad : new String[] {";", " ", "q", "l", "l1", "l1,", "l1,2,3,4", "l1,2,3;", "l1,2,3,4,5;",
            "l12,3,4,5;", "l1,2,3,45;", "l,2,3,4;", "l-1,2,3,4;", "l1;2;3;4;", "l1,2,3,4,", "l1.2,3,4;",
            "la,2,3,4;", "l1,2,3,/;", "l1,2,:,4;", "l 1,2,3,4;", "L1,2,3,4;", "x1;", "x1,2", "x1,2,3;", "x10,1;",
            "xx,1;", "X1,2;", "m0,1,1;", "m7,1,1;", "m9,1,1;", "m1,1;", "m1,1,1", "m1,1,1,1;", "m1,10,1;",
            "m1,1,a;", "M1,1,1;", "1,2;", ",", "n1,1,1;", "k1,1,1,1;", "q;", "q1;", "y1,2;", "a1,2,3,4,5;"}) {
            fault(bad, 0);
            fault("x1,2;" + bad, 5);
            fault("l1,2,3,4;m3,4,5;" + bad, 16);
            fault("x1,2;" + bad + "x1,2;q", 5);
        }
        fault("x1,2;;", 5);
        fault("x1,2; ", 5);
    }

    private static void laying() {
        BundledLinks x = Check.laid("l1,2,3,4;");
        counts(x, 1, 1, 5, 5, 4, 2, 1, 0, 0, 9);
        CHECK.due("key at end 0", x.link(0, 0, 0), 1);
        CHECK.due("priority at end 0", x.link(0, 0, 1), 2);
        CHECK.due("key at end 1", x.link(1, 0, 0), 3);
        CHECK.due("priority at end 1", x.link(1, 0, 1), 4);
        CHECK.due("lay() again: the text stays", x.lay(), 1);
        x = Check.laid("x1,2;m3,4,5;l1,2,3,4;x0,9;l5,6,7,8;m6,0,9;");
        counts(x, 2, 2, 0, 9, 6, 0, 9, 0, 0, 42);
        CHECK.due("key of the second at end 0", x.link(0, 1, 0), 5);
        CHECK.due("priority of the second at end 1", x.link(1, 1, 1), 8);
        x = Check.laid("l1,1,1,1;".repeat(6) + "x7,3;");
        counts(x, 6, 6, 7, 3, 4, 2, 1, 0, 0, 59);
        x = Check.laid("l1,1,1,1;m1,9,0;");
        counts(x, 1, 1, 5, 5, 1, 9, 0, 0, 0, 16);
        CHECK.due("a second lay() has fewer links", Check.lay(x, "l1,1,1,1;l1,1,1,1;"), 2);
        counts(x, 2, 2, 5, 5, 4, 2, 1, 0, 0, 18);
    }

    private static void counts(BundledLinks x, int... want) {
        for (int what = 0; what < want.length; what++) {
            CHECK.due("count(" + what + ")", x.count(what), want[what]);
        }
    }

    private static void layingStartsAnew() {
        String text = "l1,1,1,1;l1,1,1,1;m6,0,3;";
        BundledLinks x = Check.laid(text);
        String first = Check.all(x);
        x.tick(5);
        x.frame(0, 0);
        x.frame(1, 1);
        x.plug(0, 0);
        x.mute(1, 1, 1);
        x.tell(0, 0, 0, 9);
        x.tell(1, 1, 1, 9);
        x.set(0, 9);
        x.set(1, 8);
        x.set(2, 2);
        x.tick(1);
        CHECK.due("lay()", x.lay(), 2);
        CHECK.same("laid once more", Check.all(x), first);
        CHECK.due("undo() behind lay()", x.undo(), BundledLinks.NO);
        x.tick(1);
        CHECK.due("what was sent ahead of lay() does not come", x.bundle(0, 0), 0);
    }

    private static void layingRefused() {
        for (String bad : new String[] {"", "x1,2;", "x1,2;m1,1,1;", "l1,1,1;", "l1,1,1,1;x", "l1,1,1,1;".repeat(7)}) {
            BundledLinks x = Check.laid("l1,1,1,1;l1,1,1,1;m6,0,3;");
            x.tick(5);
            x.frame(0, 0);
            x.mute(0, 0, 1);
            x.wipe();
            Check.type(x, bad);
            String before = Check.all(x);
            CHECK.due("lay() of " + bad, x.lay(), BundledLinks.NO);
            CHECK.same("refused " + bad, Check.all(x), before);
            CHECK.due("undo() behind a refused lay()", x.undo(), 1);
        }
    }
}
