import java.util.Random;

/** Chapter 3 of the terms and what stands behind it: frames, agreed, settled, undone, refused calls. */
final class ChangeSentences {
    private static final String LIKE = Sentences.LIKE;
    private static final String TWO = LIKE.repeat(2) + "m2,0,0;";
    private static final String[] CHANGES = {"plug(0,0) = 4", "mute(1,2,1) = 1", "tell(0,1,0,7) = 1", "tell(1,1,1,7) = 4",
        "set(0,8) = 4", "set(1,2) = 5", "set(2,5) = 2", "tick(1)", "tick(40)"};

    private final Sentences s;

    ChangeSentences(Sentences s) {
        this.s = s;
    }

    void all() {
        frameGoes();
        frameRefused();
        agreed();
        settledFewest();
        settledStays();
        change();
        latestChange();
        lastSix();
        behindLaid();
        framesAreNoChange();
        bad();
        no();
        none();
        full();
        firstInThisOrder();
        nothingChanges();
        asItStands();
        textStays();
        told();
        toldAnew();
        lookedAt();
    }

    private void frameGoes() {
        s.of("Terms", "A FRAME of a FLOW at an END goes on its LINK;");
        Run x = s.laid(LIKE.repeat(6) + "m6,0,1;").calls("tick(3)");
        for (int f = 0; f < 8; f++) {
            x.calls("frame(0,%1$d) = %2$d; frame(1,%1$d) = %2$d; frame(1,%1$d) = %2$d", f, (7 * f + 3) % 6);
        }
        int[] want = {1, 1, 1, 2, 2, 1};
        for (int l = 0; l < 6; l++) {
            x.calls("frames(0,%1$d) = %2$d; frames(1,%1$d) = %3$d", l, want[l], 2 * want[l]);
        }
    }

    private void frameRefused() {
        s.of("Terms", "it is refused while the FLOW is HELD, and if the FLOW has none, or that is not SENDING there.");
        Run x = s.laid(LIKE.repeat(3) + "m3,0,9;").calls("frame(0,0) = NONE; tick(2); frame(0,0) = NONE; tick(1)");
        x.calls("plug(0,0)");
        for (int i = 0; i < 9; i++) {
            x.calls("tick(1); frame(0,0) = NO; frame(1,6) = NO; frame(0,1) = 1; frame(1,2) = 2");
        }
        x.calls("tick(1); frame(0,0) = 2; frame(1,6) = 2; frames(0,0) = 0; frames(0,1) = 9; frames(0,2) = 1");
        x.calls("frames(1,2) = 10");
        x.calls("plug(1,0); plug(2,0); frame(0,0) = 2; tick(1); frame(0,0) = NONE; frame(1,7) = NONE; frames(0,2) = 2");
        for (int run = 0; run < 60; run++) {
            frameAsFlowAndBundleTell(run);
        }
    }

    /** A FLOW that is not HELD never has a LINK that is not SENDING, so this looks for it on drawn runs. */
    private void frameAsFlowAndBundleTell(int seed) {
        Random random = new Random(seed);
        Run x = s.laid(LIKE.repeat(4) + "m" + (1 + seed % 6) + "," + seed % 3 + "," + seed % 5 + ";");
        for (int i = 0; i < 25; i++) {
            int l = random.nextInt(4);
            x.calls("plug(%d,%d); mute(%d,%d,%d)", l, random.nextInt(2), i % 2, random.nextInt(4), random.nextInt(2));
            x.calls("tick(%d)", 1 + random.nextInt(3));
            int e = random.nextInt(2);
            int f = random.nextInt(8);
            int link = x.x.flow(e, f, 0);
            boolean sends = link >= 0 && (x.x.bundle(e, 2) >> link & 1) == 1;
            x.calls("frame(%d,%d) = %s", e, f, x.x.flow(e, f, 1) > 0 ? "NO" : sends ? "" + link : "NONE");
        }
    }

    private void agreed() {
        s.of("Terms", "AGREED: both ENDS have the same LINKS that are SENDING, one at least.");
        Run x = s.laid(TWO).calls("agreed() = 0; tick(2) = 0; bundle(0,1) = 3; bundle(1,1) = 3; agreed() = 0");
        x.calls("tick(1) = 1");
        x.calls("agreed() = 1; plug(1,0); tick(1) = 1; bundle(0,2) = 1; bundle(1,2) = 1; plug(0,0); tick(1) = 0");
        x.calls("agreed() = 0");
        x.calls("bundle(0,2) = 0; bundle(1,2) = 0");
        for (int e = 0; e < 2; e++) {
            x = s.laid(TWO).calls("tick(5) = 1; mute(%d,1,1); tick(3) = 1; tick(1) = 0; agreed() = 0", e);
            x.calls("bundle(%d,2) = 3; bundle(%d,2) = 1; tick(1) = 1; agreed() = 1", e, 1 - e);
            x.calls("bundle(0,2) = 1; bundle(1,2) = 1");
            x = s.laid("l1,1,1,1;l1,2,1,2;m1,0,0;x" + (1 + e) + "," + (2 - e) + ";");
            x.calls("tick(5) = 1; tell(%1$d,0,1,9); tick(1) = 0; bundle(%1$d,2) = 0; bundle(%2$d,2) = 1", e, 1 - e);
            x.calls("agreed() = 0; tick(1) = 0; tick(1) = 1");
        }
    }

    private void settledFewest() {
        s.of("Terms", "SETTLED: the fewest TICKS from now on (0 to 40; nothing changes by it)");
        for (int wait = 0; wait <= 6; wait++) {
            String text = LIKE + "m1," + wait + ",0;";
            for (int ticks = 1; ticks <= 12; ticks++) {
                Run x = s.laid(text).calls("settled() = %d; tick(%d); settled() = %d", 3 + wait, ticks,
                        Math.max(0, 3 + wait - ticks));
                x.sameAs(s.laid(text).calls("tick(%d)", ticks));
            }
        }
        Run x = s.first().calls("settled() = 5; tick(3); settled() = 2; plug(0,0); settled(); count(7) = 3");
        x.calls("count(8) = 2; tick(9)");
        x.sameAs(s.first().calls("tick(3); plug(0,0); tick(9)"));
        // the longest way to rest that a search has found
        x = s.laid("l1,8,1,0;l1,5,1,0;l1,7,1,4;l1,7,1,8;l2,5,1,2;x6,0;m4,9,9;").calls("mute(0,0,1); tick(4)");
        x.calls("tell(0,4,0,1)");
        x.calls("mute(1,1,1); settled() = 23; tick(1); settled() = 22; tick(22); settled() = 0");
        for (int seed = 0; seed < 60; seed++) {
            settledAsTicksTell(seed);
        }
    }

    private void settledAsTicksTell(int seed) {
        Random random = new Random(seed);
        int links = 3 + seed % 4;
        Run x = s.laid(LIKE.repeat(links) + "m" + links + "," + seed % 10 + "," + random.nextInt(10) + ";");
        for (int i = 0; i < 10; i++) {
            x.calls("mute(%d,%d,%d); tick(%d)", i % 2, random.nextInt(links), random.nextInt(2), 1 + random.nextInt(9));
            x.calls("plug(%d,%d); tick(%d)", random.nextInt(links), i % 2, 1 + random.nextInt(3));
            x.calls("tell(%d,%d,1,%d); set(2,%d)", i % 2, random.nextInt(links), i % 3, 1 + random.nextInt(links));
        }
        int told = x.x.settled();
        String[] seen = new String[47];
        for (int t = 0; t < seen.length; t++) {
            seen[t] = howAndFlows(x.x);
            x.calls("tick(1)");
        }
        int since = 0;
        while (since < 40 && !stays(seen, since)) {
            since++;
        }
        s.check.due("settled() as ticks tell, seed " + seed, told, since);
    }

    private static boolean stays(String[] seen, int since) {
        for (int t = since + 1; t <= since + 6; t++) {
            if (!seen[t].equals(seen[since])) {
                return false;
            }
        }
        return true;
    }

    private static String howAndFlows(BundledLinks x) {
        StringBuilder sb = new StringBuilder();
        for (int i = 0; i < 2 * x.count(0); i++) {
            sb.append(x.link(i % 2, i / 2, 2)).append(' ');
        }
        for (int i = 0; i < 16; i++) {
            sb.append(x.flow(i % 2, i / 2, 0)).append(' ');
        }
        return sb.toString();
    }

    private void settledStays() {
        s.of("Terms", "behind which HOW all LINKS are at both ENDS and all FLOWS' LINKS stay in the next 6 TICKS.");
        s.laid(LIKE + "m1,6,0;").calls("settled() = 9; tick(2); settled() = 7; tick(1); settled() = 6");
        s.laid(LIKE + "m1,7,0;").calls("settled() = 2; tick(2); settled() = 0; tick(1); settled() = 7; tick(1)")
                .calls("settled() = 6");
        s.laid(LIKE + "m1,0,0;").calls("plug(0,0); settled() = 1; tick(1); settled() = 0; plug(0,1); settled() = 3");
        s.laid(LIKE).calls("mute(0,0,1); mute(1,0,1); settled() = 0");
        for (int drain = 0; drain <= 9; drain++) {
            String text = LIKE.repeat(3) + "m3,0," + drain + ";";
            Run x = s.laid(text).calls("tick(9); settled() = 0; plug(0,0); settled() = %d", drain <= 6 ? 1 + drain : 1);
            x.calls("tick(1); settled() = %d", drain <= 6 ? drain : 0);
            for (int e = 0; e < 2; e++) {
                s.laid(text).calls("tick(9); mute(%d,0,1); settled() = %d", e, drain <= 7 ? 5 + drain : 5);
            }
        }
        settledByOneFlow();
        for (int e = 0; e < 2; e++) {
            Run x = s.laid(LIKE.repeat(2) + "m1,0,0;").calls("mute(%d,1,1); tick(9); settled() = 0", e);
            x.calls("mute(%d,1,1)", 1 - e).calls("settled() = 4; tick(3); settled() = 1; tick(1); settled() = 0");
        }
    }

    /** Runs behind which one FLOW alone, by its place here, is HELD at both ENDS: all else stays. */
    private static final String[][] ONE_FLOW_MOVES = {
        {LIKE.repeat(5) + "m5,0,1;", "tick(3); plug(4,0); tick(1); set(2,1); tick(1)", "3", "0"},
        {LIKE.repeat(4) + "m4,0,1;", "tick(3); plug(0,0); tick(1); set(2,1); tick(1)", "2", "1"},
        {LIKE.repeat(3) + "m3,0,1;", "tick(3); plug(0,0); tick(1); set(2,1); tick(1)", "2", "1"},
        {LIKE.repeat(3) + "m3,0,1;", "tick(3); plug(1,0); tick(1); plug(0,0); tick(1)", "0", "2"},
        {LIKE.repeat(3) + "m3,0,1;", "tick(3); plug(2,0); tick(1); set(2,1); tick(1)", "1", "0"},
        {LIKE.repeat(4) + "m4,0,1;", "tick(3); plug(3,0); tick(1); set(2,1); tick(1)", "2", "0"},
        {LIKE.repeat(4) + "m4,0,1;", "tick(3); plug(0,0); tick(1); plug(1,0); tick(1)", "1", "3"},
        {LIKE.repeat(5) + "m2,0,1;", "tick(3); set(2,5); tick(1); plug(1,0); tick(1); plug(2,0); tick(1)", "0", "3"},
    };

    private void settledByOneFlow() {
        for (int f = 0; f < 8; f++) {
            String[] row = ONE_FLOW_MOVES[f];
            Run x = s.laid(row[0]).calls(row[1]);
            for (int other = 0; other < 8; other++) {
                x.calls("flow(0,%1$d,1) = %2$d; flow(1,%1$d,1) = %2$d", other, other == f ? 1 : 0);
            }
            x.calls("settled() = 1; flow(0,%1$d,0) = %2$s; tick(1); flow(0,%1$d,0) = %3$s", f, row[2], row[3]);
            x.calls("settled() = 0");
        }
    }

    private void change() {
        s.of("Terms", "A change: n TICKS, anything told anew"
                + " (HOW, CHOSEN, FLOWS stay as in the last TICK till the next one).");
        for (String call : CHANGES) {
            s.first().calls("count(8) = 0; " + call + "; count(8) = 1; undo() = 0").sameAs(s.first());
        }
        Run x = s.laid(LIKE.repeat(3) + "m3,0,2;").calls("tick(5); plug(0,0); mute(0,1,1); tell(0,2,0,9)");
        x.calls("tell(1,1,1,0); set(2,1)");
        for (int e = 0; e < 2; e++) {
            x.calls("bundle(%1$d,0) = 7; bundle(%1$d,1) = 7; bundle(%1$d,2) = 7", e);
            for (int l = 0; l < 3; l++) {
                x.calls("link(%1$d,%2$d,2) = 5; link(%1$d,%2$d,8) = 3; link(%1$d,%2$d,9) = 1", e, l);
            }
            for (int f = 0; f < 8; f++) {
                x.calls("flow(%1$d,%2$d,0) = %3$d; flow(%1$d,%2$d,2) = %3$d", e, f, (7 * f + 3) % 3);
                x.calls("flow(%d,%d,1) = 0", e, f);
            }
        }
        x.calls("agreed() = 1; tick(1); link(0,0,2) = 0; bundle(0,1) = 2; bundle(1,1) = 2");
    }

    private void latestChange() {
        s.of("Terms", "UNDONE is the latest change (TICKS of one call at once;");
        for (String ahead : CHANGES) {
            for (String call : CHANGES) {
                if (!call.equals(ahead)) {
                    Run x = s.first().calls("tick(7)").calls(ahead).calls(call).calls("undo() = 2");
                    Run y = s.first().calls("tick(7)").calls(ahead);
                    x.sameAs(y);
                    x.calls("tick(3)").sameAs(y.calls("tick(3)"));
                }
            }
        }
        Run x = s.first().calls("tick(40); tick(39); count(7) = 79; undo() = 1; count(7) = 40; undo() = 0");
        x.calls("count(7) = 0");
        x.calls("undo() = NO; tick(1); count(7) = 1; undo() = 0; count(7) = 0").sameAs(s.first());
        x = s.first().calls("plug(0,0) = 4; plug(0,1) = 5; undo() = 1; count(1) = 4; undo() = 0; count(1) = 5");
        x.sameAs(s.first());
    }

    private void lastSix() {
        s.of("Terms", "the last 6 can be, such by which nothing becomes another, too;");
        for (int changes = 0; changes <= 20; changes++) {
            Run x = s.laid(LIKE);
            for (int i = 1; i <= changes; i++) {
                x.calls("tell(0,0,1,%d); count(8) = %d", (i + 1) % 10, Math.min(i, 6));
            }
            for (int left = Math.min(changes, 6) - 1; left >= 0; left--) {
                x.calls("undo() = %1$d; count(8) = %1$d", left);
            }
            x.calls("link(0,0,1) = %d; undo() = NO; count(8) = 0", changes < 6 ? 1 : (changes - 5) % 10);
        }
        Run x = s.laid(LIKE).calls("plug(0,0); tick(1); tick(1); tick(1); tick(1); tick(1); count(8) = 6; tick(1)");
        x.calls("count(8) = 6");
        x.calls("undo() = 5; undo() = 4; undo() = 3; undo() = 2; undo() = 1; undo() = 0; count(7) = 0; count(1) = 0");
        x.calls("undo() = NO");
        x = s.first().calls("set(2,3); undo() = 0; tick(1); tick(1); undo() = 1; tell(0,0,0,3); tell(0,0,0,4)");
        x.calls("undo() = 2");
        x.calls("link(0,0,0) = 3; undo() = 1; link(0,0,0) = 1; count(7) = 1; undo() = 0; count(7) = 0; count(4) = 2");
    }

    private void behindLaid() {
        s.of("Terms", "behind LAID none can be).");
        Run x = s.first().calls("undo() = NO; count(8) = 0; tick(1); tick(1); count(8) = 2").type(LIKE).calls("lay() = 1");
        x.calls("count(8) = 0; undo() = NO; tick(1); count(8) = 1; lay() = 1; undo() = NO; plug(0,0); undo() = 0");
        x.calls("undo() = NO");
        s.first().calls("tick(1)").type("l").calls("lay() = NO; count(8) = 1; undo() = 0");
    }

    private void framesAreNoChange() {
        s.of("Terms", "FRAMES that went are no change.");
        Run x = s.laid(TWO).calls("tick(5); frame(0,0) = 1; frame(0,2) = 1; frame(1,1) = 0; count(8) = 1; plug(0,0)");
        x.calls("tick(1)");
        x.calls("frame(0,0) = 1; count(8) = 3; undo() = 2; undo() = 1; count(1) = 2; frames(0,1) = 3; frames(1,0) = 1");
        x.calls("undo() = 0; count(7) = 0; frames(0,1) = 3; frames(1,0) = 1; frames(0,0) = 0; frame(0,0) = NONE");
        x.calls("undo() = NO");
    }

    private void bad() {
        s.of("Terms", "BAD: a number is none that is told (ENDS, LINKS such as there are; FLOWS 0 to 7).");
        Run x = s.laid(LIKE.repeat(6)).calls("tick(7)");
        for (String far : Sentences.FAR) {
            x.calls("plug(%1$s,0) = BAD; plug(0,%1$s) = BAD", far);
            x.calls("mute(%1$s,0,1) = BAD; mute(0,%1$s,1) = BAD; mute(0,0,%1$s) = BAD", far);
            x.calls("tell(%1$s,0,0,2) = BAD; tell(0,%1$s,0,2) = BAD", far);
            x.calls("tell(0,0,%1$s,2) = BAD; tell(0,0,0,%1$s) = BAD; tell(0,0,1,%1$s) = BAD", far);
            x.calls("set(%1$s,3) = BAD; set(0,%1$s) = BAD; set(1,%1$s) = BAD; set(2,%1$s) = BAD", far);
            x.calls("link(%1$s,0,0) = BAD; link(0,%1$s,0) = BAD; link(0,0,%1$s) = BAD", far);
            x.calls("bundle(%1$s,0) = BAD; bundle(0,%1$s) = BAD; count(%1$s) = BAD", far);
            x.calls("flow(%1$s,0,0) = BAD; flow(0,%1$s,0) = BAD; flow(0,0,%1$s) = BAD", far);
            x.calls("frame(%1$s,0) = BAD; frame(0,%1$s) = BAD; frames(%1$s,0) = BAD; frames(0,%1$s) = BAD", far);
        }
        for (String far : new String[] {"MIN", "-1", "0", "41", "MAX"}) {
            x.calls("tick(%s) = BAD", far);
        }
        x.calls("link(0,6,0) = BAD; link(0,5,0) = 1; frame(0,8) = BAD; count(8) = 1; undo() = 0");
        s.laid(LIKE.repeat(2)).calls("link(0,2,0) = BAD; link(1,1,0) = 1; plug(2,0) = BAD; frames(1,2) = BAD");
    }

    private void no() {
        s.of("Terms", "NO: not as things stand.");
        Run x = s.first().calls("plug(0,1) = NO; mute(0,0,0) = NO; tell(0,0,0,1) = NO; set(0,4) = NO; undo() = NO");
        x.calls("lay() = NO");
        x.calls("plug(0,0) = 4; mute(0,0,1) = 1; tell(0,0,0,2) = 1; set(0,5) = 4");
        x.calls("plug(0,0) = NO; mute(0,0,1) = NO; tell(0,0,0,2) = NO; set(0,5) = NO; plug(0,1) = 5; plug(0,1) = NO");
    }

    private void none() {
        s.of("Terms", "NONE: there is none.");
        Run x = s.first().calls("fault() = NONE; link(0,0,3) = NONE; link(0,0,8) = NONE; flow(0,0,0) = NONE");
        x.calls("flow(0,0,2) = NONE");
        x.calls("frame(0,0) = NONE; tick(5); link(0,0,3) = 0; link(0,0,8) = 3; flow(0,0,0) = 1; flow(0,0,2) = 1");
        x.calls("frame(0,0) = 1");
    }

    private void full() {
        s.of("Terms", "FULL.");
        s.first().type("l".repeat(199)).calls("write(108) = 200; write(108) = FULL; write(108) = FULL; count(9) = 200");
    }

    private void firstInThisOrder() {
        s.of("Terms", "Of several the first in this order;");
        s.first().type("l".repeat(200)).calls("write(31) = BAD; write(127) = BAD; write(126) = FULL");
        Run x = s.laid(LIKE.repeat(3) + "m3,0,9;").calls("plug(3,1) = BAD; plug(0,1) = NO; mute(2,0,0) = BAD");
        x.calls("mute(0,3,0) = BAD");
        x.calls("tell(0,3,0,1) = BAD; tell(2,0,0,1) = BAD; tell(0,0,2,1) = BAD; set(3,5) = BAD; set(0,5) = NO");
        x.calls("set(2,3) = NO");
        x.calls("tick(3); plug(0,0); tick(1); flow(0,0,0) = 0; link(0,0,2) = 0; frame(0,0) = NO; frame(2,0) = BAD");
        x.calls("frame(0,8) = BAD");
        x.calls("plug(1,0); plug(2,0); tick(1); flow(0,0,2) = NONE; frame(0,0) = NO; frame(0,1) = NONE; tick(8)");
        x.calls("frame(0,0) = NONE");
        x = s.laid(LIKE);
        for (int i = 0; i < 249; i++) {
            x.calls("tick(40)");
        }
        x.calls("count(7) = 9960; tick(40) = NO; tick(41) = BAD; tick(0) = BAD; tick(39) = 1; tick(1) = NO");
        x.calls("tick(-1) = BAD; tick(MAX) = BAD");
    }

    private static final String[] REFUSED = {"write(31) = BAD", "write(127) = BAD", "lay() = NO", "plug(3,0) = BAD",
        "plug(1,2) = BAD", "plug(-1,0) = BAD", "plug(0,0) = NO", "plug(1,1) = NO", "mute(2,0,1) = BAD", "mute(0,3,1) = BAD",
        "mute(0,0,2) = BAD", "mute(0,0,0) = NO", "mute(1,2,1) = NO", "tell(2,0,0,3) = BAD", "tell(0,3,0,3) = BAD",
        "tell(0,0,2,3) = BAD", "tell(0,0,0,10) = BAD", "tell(0,0,1,-1) = BAD", "tell(0,0,0,1) = NO", "tell(1,0,1,1) = NO",
        "set(3,3) = BAD", "set(0,10) = BAD", "set(1,-1) = BAD", "set(2,0) = BAD", "set(2,7) = BAD", "set(0,5) = NO",
        "set(1,5) = NO", "set(2,3) = NO", "tick(0) = BAD", "tick(41) = BAD", "link(0,0,11) = BAD", "bundle(0,3) = BAD",
        "flow(0,0,3) = BAD", "frame(0,0) = NO", "frame(2,0) = BAD", "frame(0,8) = BAD", "frames(2,0) = BAD",
        "frames(0,3) = BAD", "count(10) = BAD"};

    private Run amid() {
        return s.laid(LIKE.repeat(3) + "m3,0,9;").type("x").calls("tick(5); frame(0,2); mute(1,2,1); plug(0,0)")
                .calls("tick(1)");
    }

    private void nothingChanges() {
        s.of("Terms", "nothing changes then.");
        String later = "tick(2); undo(); undo(); undo(); tick(1)";
        for (String call : REFUSED) {
            amid().calls(call).sameAs(amid());
            amid().calls(call).calls(later).sameAs(amid().calls(later));
        }
        s.first().type("l".repeat(200)).calls("write(108) = FULL").sameAs(s.first().type("l".repeat(200)));
        s.first().calls("undo() = NO").sameAs(s.first());
        s.first().calls("frame(0,0) = NONE; tick(5)").sameAs(s.first().calls("tick(5)"));
        s.first().calls("undo() = NO; tick(5); undo() = 0").sameAs(s.first());
        Run x = s.first();
        Run y = s.first();
        for (int i = 0; i < 250; i++) {
            x.calls("tick(%d)", i == 0 ? 39 : 40);
            y.calls("tick(%d)", i == 0 ? 39 : 40);
        }
        x.calls("tick(1) = NO; tick(40) = NO; count(7) = 9999; count(8) = 6").sameAs(y);
        x.calls("undo() = 5").sameAs(y.calls("undo() = 5"));
    }

    private void asItStands() {
        s.of("Terms", "All that is asked is told of all as it stands then;");
        Run x = s.first().calls("tell(0,0,0,7); link(0,0,0) = 7; tell(0,0,1,8); link(0,0,1) = 8; set(0,1)");
        x.calls("count(2) = 1");
        x.calls("set(1,2); count(3) = 2; set(2,6); count(4) = 6; plug(4,0); count(1) = 4; mute(1,1,1)");
        x.calls("link(1,1,10) = 1");
        x.calls("count(8) = 6; write(108) = 1; count(9) = 1; fault() = 0; tick(1); count(7) = 1; undo(); count(7) = 0");
        x.calls("undo(); link(1,1,10) = 0; undo(); count(1) = 5; undo(); count(4) = 2; undo(); count(3) = 5");
        x.calls("undo() = 0; count(2) = 4");
        x.calls("link(0,0,0) = 7; link(0,0,1) = 8; undo() = NO");
    }

    private void textStays() {
        s.of("Terms", "LAID, THE TEXT stays.");
        Run x = s.first().type("x1,2;" + LIKE).calls("lay() = 1; count(9) = 14; fault() = NONE; lay() = 1");
        x.calls("count(9) = 14");
        x.type(LIKE).calls("count(9) = 23; count(0) = 1; lay() = 2; tick(3); undo(); plug(0,0); undo(); count(9) = 23");
        x.calls("wipe() = 23");
        x.calls("count(0) = 2; lay() = NO; count(0) = 2; count(9) = 0");
        s.first().type("x1").calls("lay() = NO; count(9) = 2; write(44) = 3; fault() = 0");
    }

    private void told() {
        s.of("Terms", "Ahead of the calls `write`, `wipe`, `fault`, `lay` the interface says: ---- told.");
        Run x = s.first().calls("tick(4); write(108) = 1; wipe() = 1; write(120) = 1; fault() = 0; lay() = NO");
        x.calls("count(8) = 1");
        x.calls("count(7) = 4; wipe() = 1").sameAs(s.first().calls("tick(4)"));
        s.first().calls("tick(4); write(120) = 1; undo() = 0; count(9) = 1; fault() = 0");
    }

    private void toldAnew() {
        s.of("Terms", "Ahead of the calls `plug`, `mute`, `tell`, `set`, `tick`, `undo`"
                + " the interface says: ---- told anew.");
        Run x = s.first().calls("plug(0,0); count(8) = 1; mute(0,0,1); count(8) = 2; tell(0,0,0,5); count(8) = 3");
        x.calls("set(0,0)");
        x.calls("count(8) = 4; tick(1); count(8) = 5; undo() = 4; count(8) = 4; undo() = 3; undo() = 2; undo() = 1");
        x.calls("undo() = 0");
        x.calls("count(8) = 0").sameAs(s.first());
    }

    private void lookedAt() {
        s.of("Terms", "Ahead of the calls `link`, `bundle`, `flow`, `frame`, `frames`, `agreed`, `settled`, `count`"
                + " the interface says: ---- looked at.");
        Run x = amid();
        for (int what = -1; what <= 11; what++) {
            x.calls("link(0,1,%1$d); link(1,2,%1$d); bundle(0,%1$d); flow(0,0,%1$d); flow(1,1,%1$d); count(%1$d)", what);
        }
        x.calls("frames(0,1); agreed(); settled()").sameAs(amid());
        x.calls("frame(0,1) = 1; frame(1,0) = NO; count(8) = 4; undo() = 3; frames(0,1) = 1");
    }
}
