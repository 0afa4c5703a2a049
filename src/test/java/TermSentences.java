/** Chapter 1 of the terms: ends, links, their numbers, and the text that tells them. */
final class TermSentences {
    private static final String LIKE = Sentences.LIKE;
    private static final String FIRST = "l1,5,2,5;l1,3,2,4;l1,5,2,1;l1,5,3,5;l1,6,2,6;x4,5;m2,2,1;";

    private final Sentences s;

    TermSentences(Sentences s) {
        this.s = s;
    }

    void all() {
        callsOfAnObject();
        ends();
        links();
        sixLinks();
        ranks();
        keysAndPriorities();
        upAtFirst();
        notMuteAtFirst();
        most();
        waits();
        drains();
        letters();
        items();
        oneFigure();
        itemOfALink();
        itemOfRanks();
        itemOfMost();
        faults();
        laidNeedsALink();
        laidAtFirst();
        laidAnew();
    }

    private void callsOfAnObject() {
        s.of("What it is", "An object is used for at most 512 calls after it has been made;");
        Run x = s.first();
        for (int i = 0; i < 256; i++) {
            x.calls("tick(39) = 1; count(7) = %d", 39 * (i + 1));
        }
    }

    private void ends() {
        s.of("What it is", "There are two ENDS, 0 and 1,");
        Run x = s.laid("l1,2,3,4;");
        x.calls("link(0,0,0) = 1; link(1,0,0) = 3; bundle(0,0) = 0; bundle(1,0) = 0; flow(0,0,1) = 0");
        x.calls("flow(1,0,1) = 0; frame(0,0) = NONE; frame(1,0) = NONE; frames(0,0) = 0; frames(1,0) = 0");
        for (String e : new String[] {"-1", "2", "3", "-2", "MIN", "MAX"}) {
            x.calls("link(%1$s,0,0) = BAD; bundle(%1$s,0) = BAD; flow(%1$s,0,1) = BAD; frame(%1$s,0) = BAD", e);
            x.calls("frames(%1$s,0) = BAD; mute(%1$s,0,1) = BAD; tell(%1$s,0,0,9) = BAD", e);
        }
        x.calls("mute(0,0,1) = 1; mute(1,0,1) = 1; tell(0,0,0,9) = 1; tell(1,0,0,8) = 3; count(8) = 4");
    }

    private void links() {
        s.of("What it is", "and LINKS 0, 1, ..");
        for (int n = 1; n <= 6; n++) {
            Run x = s.laid(LIKE.repeat(n));
            for (String l : new String[] {"" + n, "" + (n + 1), "6", "7", "-1", "-4", "MIN", "MAX"}) {
                x.calls("plug(%1$s,0) = BAD; mute(0,%1$s,1) = BAD; tell(1,%1$s,0,9) = BAD", l);
                x.calls("link(0,%1$s,0) = BAD; link(1,%1$s,9) = BAD; frames(0,%1$s) = BAD", l);
            }
            x.calls("count(8) = 0; count(1) = %d", n);
            for (int l = 0; l < n; l++) {
                x.calls("link(0,%1$d,0) = 1; frames(1,%1$d) = 0; tell(1,%1$d,0,9) = 1", l);
                x.calls("mute(0,%1$d,1) = %2$d; plug(%1$d,0) = %3$d", l, l + 1, n - l - 1);
            }
        }
        s.first().calls("link(0,4,0) = 1; link(0,5,0) = BAD").lay(LIKE).calls("link(0,0,0) = 1; link(0,1,0) = BAD");
    }

    private void sixLinks() {
        s.of("Terms", "(6 at most) between them.");
        Run x = s.laid(LIKE.repeat(6)).calls("count(0) = 6; wipe() = 54");
        x.type(LIKE.repeat(7)).calls("fault() = 54; lay() = NO; count(0) = 6");
        s.first().type(LIKE.repeat(7)).calls("lay() = NO; count(0) = 5");
    }

    private void ranks() {
        s.of("Terms", "An END has a RANK (0 to 9);");
        Run x = s.laid(LIKE + "x9,9;");
        for (int v = 0; v <= 9; v++) {
            x.calls("set(0,%1$d) = %2$d; count(2) = %1$d; set(1,%1$d) = %2$d; count(3) = %1$d", v, v == 0 ? 9 : v - 1);
            s.laid(LIKE + "x" + v + "," + (9 - v) + ";").calls("count(2) = %d; count(3) = %d", v, 9 - v);
        }
        for (String v : new String[] {"-1", "10", "MIN", "MAX"}) {
            x.calls("set(0,%1$s) = BAD; set(1,%1$s) = BAD; count(2) = 9; count(3) = 9", v);
        }
    }

    private void keysAndPriorities() {
        s.of("Terms", "each LINK has at each END a KEY (0 to 9) and a PRIORITY (0 to 9);");
        for (int e = 0; e < 2; e++) {
            for (int what = 0; what < 2; what++) {
                Run x = s.laid("l9,9,9,9;l9,9,9,9;");
                for (int v = 0; v <= 9; v++) {
                    x.calls("tell(%1$d,1,%2$d,%3$d) = %4$d; link(%1$d,1,%2$d) = %3$d", e, what, v, v == 0 ? 9 : v - 1);
                }
                x.calls("tell(%1$d,1,%2$d,3) = 9", e, what);
                for (String v : new String[] {"-1", "10", "MIN", "MAX"}) {
                    x.calls("tell(%1$d,1,%2$d,%3$s) = BAD; link(%1$d,1,%2$d) = 3", e, what, v);
                }
                x.calls("link(0,0,0) = 9; link(0,0,1) = 9; link(1,0,0) = 9; link(1,0,1) = 9");
                x.calls("link(%1$d,1,%2$d) = 9; link(%3$d,1,%2$d) = 9", e, 1 - what, 1 - e);
                x.calls("link(%d,1,%d) = 9", 1 - e, what);
            }
        }
    }

    private void upAtFirst() {
        s.of("Terms", "a LINK is UP or DOWN (UP at first).");
        Run x = s.laid(LIKE.repeat(3)).calls("count(1) = 3; plug(0,1) = NO; plug(1,1) = NO; plug(2,1) = NO");
        x.calls("plug(1,0) = 2; plug(0,0) = 1; plug(2,0) = 0; count(1) = 0; plug(1,1) = 1");
        x.calls("lay() = 3; count(1) = 3; plug(0,1) = NO; plug(2,1) = NO");
        x = s.first().calls("count(1) = 5");
        for (int l = 0; l < 5; l++) {
            x.calls("plug(%d,1) = NO", l);
        }
    }

    private void notMuteAtFirst() {
        s.of("Terms", "An END is MUTE on a LINK or not (not at first): it sends nothing there.");
        Run x = s.laid(LIKE.repeat(2) + "m2,0,0;");
        for (int i = 0; i < 4; i++) {
            x.calls("link(%1$d,%2$d,10) = 0; mute(%1$d,%2$d,0) = NO", i / 2, i % 2);
        }
        x.calls("mute(0,0,1) = 1; link(0,0,10) = 1; link(1,0,10) = 0; link(0,1,10) = 0; tick(40)");
        x.calls("link(1,0,3) = NONE; link(1,1,3) = 0; link(0,0,3) = 0; link(0,1,3) = 0");
        x.calls("lay() = 2; link(0,0,10) = 0; tick(2); link(1,0,3) = 0");
    }

    private void most() {
        s.of("Terms", "MOST is 1 to 6,");
        Run x = s.laid(LIKE + "m6,0,0;");
        for (int v = 1; v <= 6; v++) {
            x.calls("set(2,%1$d) = %2$d; count(4) = %1$d", v, v == 1 ? 6 : v - 1);
        }
        for (String v : new String[] {"0", "7", "-1", "8", "9", "10", "MIN", "MAX"}) {
            x.calls("set(2,%s) = BAD; count(4) = 6", v);
        }
    }

    private void waits() {
        s.of("Terms", "WAIT 0 to 9,");
        for (int w = 0; w <= 9; w++) {
            s.laid(LIKE + "m1," + w + ",0;").calls("count(5) = %d; tick(%d); link(0,0,2) = 4; tick(1) = 1", w, w + 2);
        }
        s.fault(LIKE + "m1,10,0;", "9");
        s.fault(LIKE + "m1,-1,0;", "9");
        s.fault(LIKE + "m1,,0;", "9");
    }

    private void drains() {
        s.of("Terms", "DRAIN 0 to 9.");
        for (int d = 0; d <= 9; d++) {
            Run x = s.laid(LIKE.repeat(3) + "m3,0," + d + ";").calls("count(6) = %d; tick(3); plug(0,0); tick(1)", d);
            x.calls("flow(0,0,1) = %d", d);
        }
        s.fault(LIKE + "m1,0,10;", "9");
        s.fault(LIKE + "m1,0,-1;", "9");
        s.fault(LIKE + "m1,0,;", "9");
    }

    private void letters() {
        s.of("Terms", "THE TEXT is letters (200 at most).");
        Run x = s.first();
        for (int i = 1; i <= 200; i++) {
            x.calls("write(%d) = %d", 32 + i % 95, i);
        }
        x.calls("write(32) = FULL; count(9) = 200; wipe() = 200; count(9) = 0; write(32) = 1");
        s.first().type(LIKE.repeat(5) + "x1,2;".repeat(31)).calls("count(9) = 200; fault() = NONE; lay() = 5")
                .calls("count(3) = 2");
        s.first().type("x1,2;".repeat(38) + LIKE).calls("count(9) = 199; lay() = 1");
    }

    private void items() {
        s.of("Terms", "A TEXT is ITEMS one behind the other, a ; behind each;");
        s.fault("", "NONE");
        s.fault("m1,1,1;x1,1;" + LIKE + "x2,2;" + LIKE + "m2,2,2;", "NONE");
        s.fault("l1,1,1,1", "0");
        s.fault(LIKE + "x1,1", "9");
        s.fault(LIKE + "m1,1,1", "9");
        s.fault("l1,1,1,1,x1,1;", "0");
        s.fault("l1,1,1,1x1,1;", "0");
        s.fault("x1,1:" + LIKE, "0");
        s.fault(";", "0");
        s.fault(LIKE + ";", "9");
        s.fault(LIKE + ";" + LIKE, "9");
        s.fault(" " + LIKE, "0");
        s.fault(LIKE + " " + LIKE, "9");
        s.fault(LIKE + " ", "9");
    }

    private void oneFigure() {
        s.of("Terms", "numbers have one figure:");
        for (String item : new String[] {"l1,1,1,1;", "x1,1;", "m1,1,1;"}) {
            for (int at = 1; at < item.length(); at += 2) {
                String head = item.substring(0, at);
                String tail = item.substring(at + 1);
                for (String number : new String[] {"", "11", "01", "-1", "+1", " 1", "a", "/", ":", ",", ";", "1 "}) {
                    s.fault(head + number + tail, "0");
                    s.fault("x2,2;" + head + number + tail + LIKE, "5");
                }
                for (int v = 1; v <= 6; v++) {
                    s.fault(head + v + tail, "NONE");
                }
            }
            for (int at = 2; at < item.length(); at += 2) {
                for (String sign : new String[] {"", ",,", ".", ";;", " ", "1"}) {
                    boolean isEnd = at + 1 == item.length() && sign.equals(";;");
                    s.fault(item.substring(0, at) + sign + item.substring(at + 1), isEnd ? "" + item.length() : "0");
                }
            }
        }
    }

    private void itemOfALink() {
        s.of("Terms", "lK,P,K,P the next LINK: KEY, PRIORITY at END 0, then at END 1");
        Run x = s.laid("l1,2,3,4;l5,6,7,8;l9,0,0,9;");
        int[] want = {1, 2, 3, 4, 5, 6, 7, 8, 9, 0, 0, 9};
        for (int i = 0; i < want.length; i++) {
            x.calls("link(%d,%d,%d) = %d", i / 2 % 2, i / 4, i % 2, want[i]);
        }
        s.laid("l1,2,3,4;x0,0;m1,1,1;l5,6,7,8;").calls("count(0) = 2; link(0,1,0) = 5; link(1,1,1) = 8");
        s.fault("l0,0,0,0;l9,9,9,9;", "NONE");
        for (String bad : new String[] {"l;", "l1;", "l1,1;", "l1,1,1;", "l1,1,1,1,1;", "L1,1,1,1;", "k1,1,1,1;",
            "m1,1,1,1;", "x1,1,1,1;", "1,1,1,1;", "ll1,1,1,1;"}) {
            s.fault(bad, "0");
        }
    }

    private void itemOfRanks() {
        s.of("Terms", "xR,R RANKS of END 0, 1 (5, 5 without; of several the last one counts)");
        s.laid(LIKE).calls("count(2) = 5; count(3) = 5");
        s.laid(LIKE + "x3,7;").calls("count(2) = 3; count(3) = 7").lay(LIKE).calls("count(2) = 5; count(3) = 5");
        s.laid("x0,9;" + LIKE).calls("count(2) = 0; count(3) = 9");
        s.laid("x1,2;x3,4;" + LIKE + "x6,8;").calls("count(2) = 6; count(3) = 8");
        s.laid("x1,2;".repeat(37) + LIKE + "x9,0;").calls("count(2) = 9; count(3) = 0");
        for (String bad : new String[] {"x;", "x1;", "x1,1,1;", "X1,1;", "y1,1;", "w1,1;", "xx1,1;", "m1,1;", "1,1;"}) {
            s.fault(bad, "0");
        }
    }

    private void itemOfMost() {
        s.of("Terms", "mM,W,D MOST (1 to 6), WAIT, DRAIN (4, 2, 1 without; of several the last one counts)");
        s.laid(LIKE).calls("count(4) = 4; count(5) = 2; count(6) = 1");
        s.laid(LIKE + "m3,5,7;").calls("count(4) = 3; count(5) = 5; count(6) = 7").lay(LIKE)
                .calls("count(4) = 4; count(5) = 2; count(6) = 1");
        s.laid("m1,2,3;m5,6,7;" + LIKE + "m2,9,0;").calls("count(4) = 2; count(5) = 9; count(6) = 0");
        s.laid("m6,0,9;" + LIKE).calls("count(4) = 6; count(5) = 0; count(6) = 9");
        for (int most = 0; most <= 9; most++) {
            s.fault("m" + most + ",1,1;", most >= 1 && most <= 6 ? "NONE" : "0");
            s.fault("m1," + most + "," + most + ";", "NONE");
        }
        s.fault("m0,1,1;m1,1,1;", "0");
        s.fault("m1,1,1;m7,1,1;", "7");
        for (String bad : new String[] {"m;", "m1;", "m1,1;", "m1,1,1,1;", "M1,1,1;", "n1,1,1;", "x1,1,1;", "1,1,1;"}) {
            s.fault(bad, "0");
        }
    }

    private void faults() {
        s.of("Terms", "FAULT: the place (from 0 on) of the first letter of the first ITEM that is not so"
                + " (or is one too many).");
        s.fault("q", "0");
        s.fault("x1,2;l1,2,3,z;", "5");
        s.fault("x1,2;m9,1,1;l1,2,3,z;", "5");
        s.fault("x1,2;m1,1,1;l1,2,3,z;q", "12");
        s.fault("x1,1;".repeat(39) + "x1,1:", "195");
        s.fault("x1,1;".repeat(39) + "l1,1,", "195");
        s.fault("x1,1;".repeat(40), "NONE");
        s.fault("x1,1;".repeat(38) + LIKE + "x", "199");
        s.fault(LIKE.repeat(6), "NONE");
        s.fault(LIKE.repeat(7), "54");
        s.fault(LIKE.repeat(8) + "q", "54");
        s.fault(LIKE.repeat(6) + "q;" + LIKE, "54");
        s.fault(LIKE.repeat(6) + "m1,1,1;x1,1;" + LIKE, "66");
        s.fault("q;" + LIKE.repeat(7), "0");
        s.fault(LIKE.repeat(6) + "l", "54");
        for (char letter = 32; letter < 127; letter++) {
            for (int numbers = 0; numbers <= 5; numbers++) {
                boolean isSo = numbers == (letter == 'l' ? 4 : letter == 'x' ? 2 : letter == 'm' ? 3 : -1);
                String item = letter + (numbers == 0 ? "" : "1" + ",1".repeat(numbers - 1)) + ";";
                s.fault(item, isSo ? "NONE" : "0");
                s.fault("m1,1,1;" + item + "x1,1;", isSo ? "NONE" : "7");
            }
        }
        s.fault("x1,1;".repeat(9) + "m1,1,1;".repeat(9), "NONE");
    }

    private void laidNeedsALink() {
        s.of("Terms", "LAID is a TEXT without FAULT with a LINK at least (NO else;");
        for (String text : new String[] {"", "x1,2;", "m1,1,1;", "x1,2;m1,1,1;", "x1,1;".repeat(40), "l1,1,1;",
            LIKE + "x", LIKE + "m0,0,0;", LIKE.repeat(7), "l"}) {
            Run x = s.first().type(text).calls("tick(3) = 0; lay() = NO; count(0) = 5; count(7) = 3; undo() = 0");
            x.calls("count(9) = %d", text.length());
        }
        s.first().type(LIKE).calls("lay() = 1; count(0) = 1");
        s.first().type("x1,2;m1,1,1;" + LIKE).calls("lay() = 1; count(0) = 1");
    }

    private void laidAtFirst() {
        s.of("Terms", "at first " + FIRST + "):");
        s.laid(FIRST).calls("wipe() = 57").sameAs(s.first());
        String later = "tick(2); plug(1,0); tick(7); undo(); set(2,5); tick(7)";
        s.laid(FIRST).calls("wipe() = 57").calls(later).sameAs(s.first().calls(later));
    }

    private void laidAnew() {
        s.of("Terms", "TICK 0, nothing is known, all FLOWS have no LINK.");
        Run x = s.laid(LIKE.repeat(3) + "m3,0,9;").calls("tick(5) = 1; plug(0,0); mute(0,1,1); tick(1)");
        x.calls("frame(0,1) = 1");
        x.calls("flow(0,0,1) = 9; flow(0,0,0) = 0; link(0,2,9) = 1; lay() = 3; count(7) = 0; count(8) = 0");
        for (int e = 0; e < 2; e++) {
            for (int l = 0; l < 3; l++) {
                x.calls("link(%1$d,%2$d,2) = 1; link(%1$d,%2$d,3) = NONE; link(%1$d,%2$d,4) = NONE", e, l);
                x.calls("link(%1$d,%2$d,5) = NONE; link(%1$d,%2$d,6) = NONE; link(%1$d,%2$d,7) = NONE", e, l);
                x.calls("link(%1$d,%2$d,8) = NONE; link(%1$d,%2$d,9) = 0; frames(%1$d,%2$d) = 0", e, l);
            }
            for (int f = 0; f < 8; f++) {
                x.calls("flow(%1$d,%2$d,0) = NONE; flow(%1$d,%2$d,1) = 0; flow(%1$d,%2$d,2) = NONE", e, f);
            }
            x.calls("bundle(%1$d,0) = 0; bundle(%1$d,1) = 0; bundle(%1$d,2) = 0", e);
        }
        x.calls("agreed() = 0; tick(1) = 0; bundle(0,0) = 0; bundle(1,0) = 0; tick(2) = 1; bundle(0,0) = 7");
        x.calls("link(0,1,8) = 1");
    }
}
