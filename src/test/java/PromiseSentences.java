/** The promises, 1 to 19, each answer that they name. */
final class PromiseSentences {
    private static final String LIKE = Sentences.LIKE;
    private static final String TWO = LIKE.repeat(2) + "m2,0,0;";

    private final Sentences s;

    PromiseSentences(Sentences s) {
        this.s = s;
    }

    void all() {
        newObject();
        write();
        writeRefused();
        wipe();
        fault();
        lay();
        plug();
        mute();
        tell();
        set();
        tick();
        undo();
        linkToldAndHow();
        linkKnown();
        linkCounted();
        bundle();
        flow();
        frame();
        frames();
        agreed();
        settled();
        count();
    }

    private void newObject() {
        s.of("Promise 1", "As told; THE TEXT is empty.");
        s.first().calls("count(9) = 0; wipe() = 0; fault() = NONE; lay() = NO; count(0) = 5; write(108) = 1");
        Run x = s.first();
        int[] counts = {5, 5, 4, 5, 2, 2, 1, 0, 0, 0};
        for (int what = 0; what < counts.length; what++) {
            x.calls("count(%d) = %d", what, counts[what]);
        }
        s.first().calls("write(108); plug(0,0); tick(9); frame(0,0)");
        s.first().sameAs(x);
    }

    private void write() {
        s.of("Promise 2", "A letter (32 to 126, as in ASCII) comes behind THE TEXT: how long it is.");
        Run x = s.first();
        for (int letter = 32; letter <= 126; letter++) {
            x.calls("write(%d) = %d; count(9) = %2$d", letter, letter - 31);
        }
        x = s.first().calls("write(108) = 1; write(49) = 2; write(44) = 3; write(50) = 4; write(44) = 5");
        x.calls("write(51) = 6");
        x.calls("write(44) = 7; write(52) = 8; fault() = 0; write(59) = 9; fault() = NONE; lay() = 1");
        x.calls("link(0,0,0) = 1; link(0,0,1) = 2; link(1,0,0) = 3; link(1,0,1) = 4; write(120) = 10; fault() = 9");
    }

    private void writeRefused() {
        s.of("Promise 2", "BAD; FULL: it has 200.");
        Run x = s.first();
        for (String letter : new String[] {"31", "127", "128", "0", "10", "-1", "255", "364", "65644", "MIN", "MAX"}) {
            x.calls("write(%s) = BAD; count(9) = 0", letter);
        }
        x.type("x1,2;".repeat(39) + "x1,2").calls("count(9) = 199; fault() = 195; write(59) = 200; fault() = NONE");
        x.calls("write(59) = FULL; write(32) = FULL; fault() = NONE; count(9) = 200; write(127) = BAD; wipe() = 200");
        x.calls("write(59) = 1");
    }

    private void wipe() {
        s.of("Promise 3", "THE TEXT is empty: how long it was.");
        Run x = s.first().calls("wipe() = 0; write(108); wipe() = 1; count(9) = 0; fault() = NONE; wipe() = 0");
        x.type("x1,2;l1").calls("wipe() = 7").type("l").calls("fault() = 0; count(9) = 1; wipe() = 1");
        x.type("l1,2,3,").calls("wipe() = 7");
        x.type("l1,2,3").calls("fault() = 0; wipe() = 6").type(LIKE).calls("lay() = 1; wipe() = 9; count(0) = 1");
        x.calls("lay() = NO");
        s.first().type("l".repeat(200)).calls("wipe() = 200; wipe() = 0");
    }

    private void fault() {
        s.of("Promise 4", "FAULT. NONE.");
        s.first().calls("fault() = NONE").type(LIKE).calls("fault() = NONE; lay() = 1; fault() = NONE").type("x")
                .calls("fault() = 9").type("1,").calls("fault() = 9").type("2").calls("fault() = 9").type(";")
                .calls("fault() = NONE").type("z").calls("fault() = 14; fault() = 14; lay() = NO");
        s.fault("x1,2;", "NONE");
        s.fault("z", "0");
    }

    private void lay() {
        s.of("Promise 5", "LAID: how many LINKS. NO.");
        for (int links = 1; links <= 6; links++) {
            s.first().type(LIKE.repeat(links)).calls("lay() = %1$d; count(0) = %1$d; count(1) = %1$d", links);
            s.laid(LIKE.repeat(6)).calls("wipe()").type(LIKE.repeat(links)).calls("lay() = %1$d; count(0) = %1$d", links);
        }
        s.first().calls("lay() = NO").type("x1,2;").calls("lay() = NO").type(LIKE).calls("lay() = 1").type("q")
                .calls("lay() = NO");
        s.first().type(LIKE.repeat(7)).calls("lay() = NO; count(0) = 5");
    }

    private void plug() {
        s.of("Promise 6", "A LINK is UP (is = 1) or DOWN (0): how many are UP then.");
        Run x = s.laid(LIKE.repeat(6)).calls("plug(5,0) = 5; plug(0,0) = 4; plug(3,0) = 3; plug(1,0) = 2");
        x.calls("plug(2,0) = 1; plug(4,0) = 0");
        x.calls("tick(2); link(0,5,2) = 0; link(1,4,2) = 0; plug(3,1) = 1; plug(5,1) = 2; tick(1); link(0,3,2) = 1");
        x.calls("link(1,5,2) = 1");
        x.calls("link(0,4,2) = 0; count(1) = 2; count(0) = 6");
        s.of("Promise 6", "BAD; NO: it is so.");
        x = s.laid(LIKE.repeat(2)).calls("plug(-1,0) = BAD; plug(2,0) = BAD; plug(0,-1) = BAD; plug(0,2) = BAD");
        x.calls("plug(MIN,MAX) = BAD");
        x.calls("plug(0,1) = NO; plug(1,1) = NO; plug(1,0) = 1; plug(1,0) = NO; plug(0,1) = NO; undo() = 0");
        x.calls("plug(1,1) = NO; count(8) = 0");
    }

    private void mute() {
        s.of("Promise 7", "An END is MUTE (is = 1) on a LINK or not (0): on how many it is then.");
        Run x = s.laid(LIKE.repeat(6));
        for (int l = 0; l < 6; l++) {
            x.calls("mute(0,%d,1) = %d; link(0,%1$d,10) = 1; link(1,%1$d,10) = 0", l, l + 1);
        }
        x.calls("mute(1,5,1) = 1; mute(1,0,1) = 2; mute(0,3,0) = 5; mute(0,0,0) = 4; mute(1,5,0) = 1; mute(1,0,0) = 0");
        x.calls("tick(3); link(1,3,3) = 0; link(1,1,3) = NONE; link(0,1,3) = 0; plug(2,0); mute(0,2,0) = 3");
        x.calls("mute(0,2,1) = 4");
        s.of("Promise 7", "BAD; NO: it is so.");
        x = s.laid(TWO).calls("mute(-1,0,1) = BAD; mute(2,0,1) = BAD; mute(0,-1,1) = BAD; mute(0,2,1) = BAD");
        x.calls("mute(0,0,-1) = BAD");
        x.calls("mute(0,0,2) = BAD; mute(MAX,MIN,1) = BAD; mute(0,0,0) = NO; mute(1,1,0) = NO; mute(1,1,1) = 1");
        x.calls("mute(1,1,1) = NO");
        x.calls("mute(0,1,0) = NO; mute(1,0,0) = NO; count(8) = 1; undo() = 0; mute(1,1,0) = NO");
    }

    private void tell() {
        s.of("Promise 8", "KEY (what = 0), PRIORITY (1) of a LINK at an END is told anew (0 to 9): what it was.");
        Run x = s.laid("l1,2,3,4;l5,6,7,8;").calls("tell(0,0,0,9) = 1; tell(0,0,1,0) = 2; tell(1,0,0,0) = 3");
        x.calls("tell(1,0,1,9) = 4");
        x.calls("tell(0,1,0,0) = 5; tell(0,1,1,9) = 6; tell(1,1,0,9) = 7; tell(1,1,1,0) = 8; tell(0,0,0,0) = 9");
        x.calls("tell(0,0,1,9) = 0");
        x.calls("link(0,0,0) = 0; link(0,0,1) = 9; link(1,0,0) = 0; link(1,0,1) = 9; link(0,1,0) = 0; link(0,1,1) = 9");
        x.calls("link(1,1,0) = 9; link(1,1,1) = 0; plug(0,0); tell(0,0,0,4) = 0");
        s.of("Promise 8", "BAD; NO: it is so.");
        x = s.laid("l1,2,3,4;l5,6,7,8;").calls("tell(-1,0,0,9) = BAD; tell(2,0,0,9) = BAD; tell(0,-1,0,9) = BAD");
        x.calls("tell(0,2,0,9) = BAD");
        x.calls("tell(0,0,-1,9) = BAD; tell(0,0,2,9) = BAD; tell(0,0,0,-1) = BAD; tell(0,0,0,10) = BAD");
        x.calls("tell(0,0,1,-1) = BAD");
        x.calls("tell(0,0,1,10) = BAD; tell(MIN,MIN,MIN,MIN) = BAD; tell(0,0,0,1) = NO; tell(0,0,1,2) = NO");
        x.calls("tell(1,0,0,3) = NO");
        x.calls("tell(1,0,1,4) = NO; tell(1,1,1,8) = NO; tell(1,1,1,7) = 8; tell(1,1,1,7) = NO; count(8) = 1");
    }

    private void set() {
        s.of("Promise 9", "RANK of END 0 (what = 0), of END 1 (1) (0 to 9), MOST (2; 1 to 6) is told anew:"
                + " what it was.");
        Run x = s.laid(LIKE + "x3,7;m2,4,6;").calls("set(0,0) = 3; set(1,9) = 7; set(2,6) = 2; set(0,9) = 0");
        x.calls("set(1,0) = 9; set(2,1) = 6");
        x.calls("count(2) = 9; count(3) = 0; count(4) = 1; count(5) = 4; count(6) = 6; link(0,0,0) = 1");
        s.of("Promise 9", "BAD; NO: it is so.");
        x = s.laid(LIKE + "x3,7;m2,4,6;").calls("set(-1,5) = BAD; set(3,5) = BAD; set(4,5) = BAD; set(MIN,5) = BAD");
        x.calls("set(MAX,5) = BAD");
        x.calls("set(0,-1) = BAD; set(0,10) = BAD; set(1,-1) = BAD; set(1,10) = BAD; set(2,0) = BAD; set(2,7) = BAD");
        x.calls("set(2,MIN) = BAD");
        x.calls("set(0,3) = NO; set(1,7) = NO; set(2,2) = NO; set(0,7) = 3; set(0,7) = NO; set(2,3) = 2");
        x.calls("set(2,3) = NO; count(8) = 2");
    }

    private void tick() {
        s.of("Promise 10", "n TICKS (1 to 40): 1 if it is AGREED then, else 0.");
        for (int n = 1; n <= 40; n++) {
            s.laid(TWO).calls("tick(%d) = %d; count(7) = %1$d; count(8) = 1; agreed() = %2$d", n, n >= 3 ? 1 : 0);
        }
        s.laid(TWO).calls("tick(5) = 1; mute(0,1,1); tick(3) = 1; tick(1) = 0; tick(1) = 1; plug(0,0); plug(1,0)")
                .calls("tick(1) = 0");
        Run x = s.laid(TWO);
        for (int i = 1; i <= 7; i++) {
            x.calls("tick(1)");
        }
        x.calls("count(7) = 7; link(0,0,8) = 5; link(0,0,9) = 1");
        s.laid(TWO).calls("tick(7); count(7) = 7; link(0,0,8) = 5; link(0,0,9) = 1");
        s.of("Promise 10", "BAD; NO: there would be more than 9999.");
        x = s.laid(TWO).calls("tick(0) = BAD; tick(-1) = BAD; tick(41) = BAD; tick(MIN) = BAD; tick(MAX) = BAD");
        x.calls("count(7) = 0");
        for (int i = 0; i < 249; i++) {
            x.calls("tick(40) = 1");
        }
        x.calls("count(7) = 9960; tick(40) = NO; count(7) = 9960; tick(38) = 1; tick(2) = NO; tick(41) = BAD");
        x.calls("tick(1) = 1; count(7) = 9999");
        x.calls("tick(1) = NO; tick(40) = NO; tick(0) = BAD; count(8) = 6; link(0,0,8) = 9997; settled() = 0");
        x.calls("plug(0,0); settled() = 1");
        x.calls("undo() = 5; undo() = 4; count(7) = 9998; tick(2) = NO; tick(1) = 1; lay() = 2; count(7) = 0");
        x.calls("tick(40) = 1");
    }

    private void undo() {
        s.of("Promise 11", "UNDONE: how many more can be. NO.");
        Run x = s.first().calls("undo() = NO; tick(1); undo() = 0; undo() = NO; plug(0,0); plug(1,0); plug(2,0)");
        x.calls("undo() = 2; undo() = 1");
        x.calls("count(1) = 4; undo() = 0; count(1) = 5; undo() = NO; count(8) = 0");
        x = s.first();
        for (int i = 1; i <= 30; i++) {
            x.calls("tick(1); count(8) = %d", Math.min(i, 6));
        }
        x.calls("undo() = 5; undo() = 4; undo() = 3; undo() = 2; undo() = 1; undo() = 0; undo() = NO; undo() = NO");
        x.calls("count(7) = 24");
    }

    private void linkToldAndHow() {
        s.of("Promise 12", "Of a LINK at an END: KEY (what = 0), PRIORITY (1),");
        Run x = s.laid("l1,2,3,4;l5,6,7,8;").calls("link(0,0,0) = 1; link(0,0,1) = 2; link(1,0,0) = 3");
        x.calls("link(1,0,1) = 4; link(0,1,0) = 5");
        x.calls("link(0,1,1) = 6; link(1,1,0) = 7; link(1,1,1) = 8; tell(1,0,0,9); link(1,0,0) = 9; link(0,0,0) = 1");
        x.calls("undo(); link(1,0,0) = 3");
        s.of("Promise 12", "HOW it is (2; 1 ahead of the first TICK),");
        x = s.laid("l1,1,1,1;l1,2,1,2;m1,1,0;").calls("link(0,0,2) = 1; link(1,1,2) = 1; plug(1,0); link(0,1,2) = 1");
        x.calls("link(1,1,2) = 1");
        x.calls("tick(1); link(0,1,2) = 0; link(0,0,2) = 1; undo(); link(0,1,2) = 1; plug(1,1); tick(2)");
        x.calls("link(0,0,2) = 3; link(0,1,2) = 2");
        x.calls("tick(1); link(1,0,2) = 4; tick(1); link(1,0,2) = 5; undo(); undo(); undo(); link(1,0,2) = 1; tick(1)");
        x.calls("lay(); link(1,0,2) = 1");
        s.of("Promise 12", "HOW, COUNT as in the last TICK.");
        x = s.laid(TWO).calls("tick(5); plug(0,0); tell(0,1,0,9); set(2,1); link(0,0,2) = 5; link(0,0,8) = 3");
        x.calls("link(0,1,2) = 5; link(0,1,8) = 3");
        x.calls("tick(1); link(0,0,2) = 0; link(0,0,8) = NONE; plug(0,1); link(0,0,2) = 0; link(0,0,8) = NONE");
        x.calls("tick(1); link(0,0,2) = 1");
        s.of("Promise 12", "BAD.");
        x = s.laid(TWO).calls("link(0,0,-1) = BAD; link(0,0,11) = BAD; link(-1,0,0) = BAD; link(2,0,0) = BAD");
        x.calls("link(0,-1,0) = BAD");
        x.calls("link(0,2,0) = BAD; link(0,0,MIN) = BAD; link(0,0,MAX) = BAD; link(MIN,0,0) = BAD");
        x.calls("link(0,MAX,0) = BAD; link(1,1,10) = 0");
    }

    private void linkKnown() {
        s.of("Promise 12", "AGE (3; NONE: it KNOWS nothing),");
        Run x = s.laid(LIKE + "m1,0,0;").calls("link(0,0,3) = NONE; tick(1); link(0,0,3) = NONE; tick(1)");
        x.calls("link(0,0,3) = 0; mute(1,0,1)");
        x.calls("link(0,0,3) = 0; tick(1); link(0,0,3) = 0; tick(1); link(0,0,3) = 1; tick(1); link(0,0,3) = 2");
        x.calls("tick(1); link(0,0,3) = NONE");
        x.calls("link(1,0,3) = 0; undo(); link(0,0,3) = 2; plug(0,0); link(0,0,3) = 2; tick(1); link(0,0,3) = NONE");
        x.calls("link(1,0,3) = NONE");
        s.of("Promise 12", "KEY (4), PRIORITY (5), RANK (6) that it KNOWS (NONE),");
        x = s.laid("l1,2,3,4;x6,7;m1,0,0;").calls("link(0,0,4) = NONE; link(0,0,5) = NONE; link(0,0,6) = NONE");
        x.calls("tick(1); link(1,0,4) = NONE; tick(1)");
        x.calls("link(0,0,4) = 3; link(0,0,5) = 4; link(0,0,6) = 7; link(1,0,4) = 1; link(1,0,5) = 2; link(1,0,6) = 6");
        x.calls("tell(0,0,0,9); tell(0,0,1,8); set(0,0); tick(1); link(1,0,4) = 1; link(1,0,5) = 2; link(1,0,6) = 6");
        x.calls("tick(1)");
        x.calls("link(1,0,4) = 9; link(1,0,5) = 8; link(1,0,6) = 0; mute(0,0,1); tick(4); link(1,0,4) = NONE");
        x.calls("link(1,0,5) = NONE; link(1,0,6) = NONE");
        x.calls("link(0,0,4) = 3; link(0,0,5) = 4; link(0,0,6) = 7");
        s.laid("l0,0,0,0;x0,0;m1,0,0;").calls("tick(2); link(0,0,4) = 0; link(0,0,5) = 0; link(0,0,6) = 0")
                .calls("link(0,0,3) = 0");
        s.of("Promise 12", "1 if it KNOWS SYNC, else 0 (7; NONE),");
        x = s.laid(LIKE + "m1,1,0;").calls("link(0,0,7) = NONE; tick(1); link(0,0,7) = NONE; tick(1); link(0,0,7) = 0");
        x.calls("tick(1); link(0,0,7) = 0");
        x.calls("tick(1); link(0,0,7) = 1; link(1,0,7) = 1; mute(1,0,1); tick(3); link(0,0,7) = 1; tick(1)");
        x.calls("link(0,0,7) = NONE; link(1,0,7) = 1");
        x.calls("tick(1); link(1,0,7) = 0");
    }

    private void linkCounted() {
        s.of("Promise 12", "COUNT (8; NONE: it is not CHOSEN),");
        Run x = s.laid("l1,1,1,1;l1,2,1,2;m1,2,0;").calls("link(0,0,8) = NONE; tick(1); link(0,0,8) = NONE; tick(1)");
        x.calls("link(0,0,8) = 0; link(0,1,8) = NONE");
        x.calls("tick(2); link(0,0,8) = 2; link(1,0,8) = 2; plug(0,0); link(0,0,8) = 2; tick(1); link(0,0,8) = NONE");
        x.calls("link(0,1,8) = 0; undo()");
        x.calls("link(0,0,8) = 2; link(0,1,8) = NONE");
        s.of("Promise 12", "BEGUN (9),");
        x = s.laid(TWO).calls("link(0,0,9) = 0; tick(2); link(0,0,9) = 0; tick(1); link(0,0,9) = 1; tick(20)");
        x.calls("link(0,0,9) = 1; plug(0,0); tick(1)");
        x.calls("link(0,0,9) = 1; plug(0,1); tick(3); link(0,0,9) = 2; link(1,0,9) = 2; link(0,1,9) = 1; undo()");
        x.calls("link(0,0,9) = 1; lay(); link(0,0,9) = 0");
        s.of("Promise 12", "1 if MUTE, else 0 (10).");
        x = s.laid(TWO).calls("link(0,0,10) = 0; mute(0,0,1); link(0,0,10) = 1; link(1,0,10) = 0; link(0,1,10) = 0");
        x.calls("tick(1); link(0,0,10) = 1");
        x.calls("mute(0,0,0); link(0,0,10) = 0; undo(); link(0,0,10) = 1; plug(0,0); tick(1); link(0,0,10) = 1; lay()");
        x.calls("link(0,0,10) = 0");
    }

    private void bundle() {
        s.of("Promise 13", "LINKS of an END, as bits: OPEN (what = 0), CHOSEN (1), SENDING (2),"
                + " as in the last TICK (none ahead of the first).");
        Run x = s.laid(LIKE.repeat(6) + "m4,0,0;");
        for (int what = 0; what < 3; what++) {
            x.calls("bundle(0,%1$d) = 0; bundle(1,%1$d) = 0", what);
        }
        x.calls("plug(1,0); mute(1,3,1); tick(1); bundle(0,0) = 0; tick(1); bundle(0,0) = 53; bundle(1,0) = 61");
        x.calls("bundle(0,1) = 53; bundle(1,1) = 29");
        x.calls("bundle(0,2) = 0; bundle(1,2) = 0; tick(1); bundle(0,2) = 21; bundle(1,2) = 21; plug(0,0); set(2,1)");
        x.calls("bundle(0,0) = 53");
        x.calls("bundle(0,1) = 53; bundle(0,2) = 21; tick(1); bundle(0,0) = 52; bundle(0,1) = 4; bundle(0,2) = 4");
        s.of("Promise 13", "BAD.");
        x.calls("bundle(-1,0) = BAD; bundle(2,0) = BAD; bundle(0,-1) = BAD; bundle(0,3) = BAD; bundle(MIN,0) = BAD");
        x.calls("bundle(0,MAX) = BAD; bundle(1,2) = 4");
    }

    private void flow() {
        s.of("Promise 14", "Of a FLOW at an END: its LINK (what = 0; NONE),");
        Run x = s.laid(LIKE.repeat(3) + "m3,0,2;").calls("flow(0,0,0) = NONE; tick(3); flow(0,0,0) = 0");
        x.calls("flow(0,7,0) = 1; flow(1,2,0) = 2; plug(0,0)");
        x.calls("tick(2); flow(0,0,0) = 0; tick(1); flow(0,0,0) = 2; plug(1,0); plug(2,0); tick(1)");
        x.calls("flow(0,0,0) = NONE; flow(1,7,0) = NONE");
        s.of("Promise 14", "for how many TICKS it is HELD still (1; 0: it is not),");
        x = s.laid(LIKE.repeat(3) + "m3,0,2;").calls("flow(0,0,1) = 0; tick(3); flow(0,0,1) = 0; plug(0,0)");
        x.calls("flow(0,0,1) = 0; tick(1); flow(0,0,1) = 2");
        x.calls("flow(0,1,1) = 0; tick(1); flow(0,0,1) = 1; tick(1); flow(0,0,1) = 0; undo(); flow(0,0,1) = 1");
        s.of("Promise 14", "what it WANTS (2; NONE), by LINKS that are SENDING as in the last TICK.");
        x = s.laid(LIKE.repeat(3) + "m3,0,2;").calls("flow(0,0,2) = NONE; tick(2); flow(0,0,2) = NONE; tick(1)");
        x.calls("flow(0,0,2) = 0; plug(0,0); flow(0,0,2) = 0");
        x.calls("tick(1); flow(0,0,2) = 2; flow(1,3,2) = 1; plug(1,0); plug(2,0); flow(0,0,2) = 2; tick(1)");
        x.calls("flow(0,0,2) = NONE");
        s.of("Promise 14", "BAD.");
        x.calls("flow(-1,0,0) = BAD; flow(2,0,0) = BAD; flow(0,-1,0) = BAD; flow(0,8,0) = BAD; flow(0,0,-1) = BAD");
        x.calls("flow(0,0,3) = BAD");
        x.calls("flow(MIN,0,0) = BAD; flow(0,MIN,0) = BAD; flow(0,0,MIN) = BAD; flow(0,MAX,0) = BAD; flow(1,7,1) = 0");
    }

    private void frame() {
        s.of("Promise 15", "A FRAME of a FLOW goes at an END: its LINK.");
        Run x = s.laid(LIKE.repeat(3) + "m3,0,9;").calls("tick(3); frame(0,0) = 0; frame(0,1) = 1; frame(1,7) = 1");
        x.calls("frames(0,0) = 1; frames(0,1) = 1");
        x.calls("frames(1,1) = 1; frames(1,0) = 0; plug(0,0); frame(0,0) = 0; frames(0,0) = 2");
        s.of("Promise 15", "BAD; NO: it is HELD;");
        x.calls("frame(-1,0) = BAD; frame(2,0) = BAD; frame(0,-1) = BAD; frame(0,8) = BAD; frame(MIN,0) = BAD");
        x.calls("frame(0,MAX) = BAD; tick(1)");
        x.calls("frame(0,0) = NO; frames(0,0) = 2; frame(0,1) = 1; tick(8); flow(0,0,1) = 1; frame(0,0) = NO; tick(1)");
        x.calls("frame(0,0) = 2");
        s.of("Promise 15", "NONE: the FLOW has no LINK, or that is not SENDING (as in the last TICK).");
        x = s.laid(TWO).calls("frame(0,0) = NONE; tick(2); frame(0,0) = NONE; frame(1,7) = NONE; tick(1)");
        x.calls("frame(0,0) = 1; plug(0,0); plug(1,0)");
        x.calls("frame(0,0) = 1; tick(1); frame(0,0) = NONE; frame(1,7) = NONE; frames(0,1) = 2; plug(1,1)");
        x.calls("frame(0,0) = NONE; tick(3); frame(0,0) = 1");
    }

    private void frames() {
        s.of("Promise 16", "How many FRAMES went on a LINK from an END since LAID.");
        Run x = s.laid(TWO).calls("frames(0,0) = 0; frames(1,1) = 0; tick(3)");
        for (int i = 1; i <= 30; i++) {
            x.calls("frame(0,0) = 1; frames(0,1) = %1$d; frame(1,1) = 0; frames(1,0) = %1$d", i);
            x.calls("frames(0,0) = 0; frames(1,1) = 0");
        }
        x.calls("plug(1,0); tick(1); frames(0,1) = 30; undo(); undo(); undo(); frames(0,1) = 30; frames(1,0) = 30");
        x.calls("tick(1); wipe(); lay() = NO");
        x.calls("frames(0,1) = 30").type(TWO).calls("lay() = 2; frames(0,1) = 0; frames(1,0) = 0");
        x = s.laid(LIKE.repeat(3) + "m3,0,0;").calls("tick(3); frame(0,0); frame(0,1); frame(0,1); frame(0,2)");
        x.calls("frame(0,2)");
        x.calls("frame(0,2); frame(1,0); frame(1,0); frame(1,1); frame(1,2); frame(1,2); frame(1,2); frame(1,2)");
        x.calls("frames(0,0) = 1; frames(0,1) = 2; frames(0,2) = 3; frames(1,0) = 2; frames(1,1) = 1; frames(1,2) = 4");
        x.calls("lay()");
        for (int l = 0; l < 3; l++) {
            x.calls("frames(0,%1$d) = 0; frames(1,%1$d) = 0", l);
        }
        s.of("Promise 16", "BAD.");
        x.calls("frames(-1,0) = BAD; frames(2,0) = BAD; frames(0,-1) = BAD; frames(0,3) = BAD; frames(0,6) = BAD");
        x.calls("frames(MAX,0) = BAD; frames(0,MIN) = BAD");
    }

    private void agreed() {
        s.of("Promise 17", "1 if AGREED (as in the last TICK), else 0.");
        Run x = s.laid(TWO).calls("agreed() = 0; tick(2); agreed() = 0; tick(1); agreed() = 1; plug(0,0); plug(1,0)");
        x.calls("agreed() = 1; tick(1); agreed() = 0");
        x.calls("plug(0,1); plug(1,1); agreed() = 0; tick(3); agreed() = 1; mute(0,0,1); agreed() = 1; tick(4)");
        x.calls("agreed() = 0; undo(); agreed() = 1");
    }

    private void settled() {
        s.of("Promise 18", "SETTLED: the TICKS.");
        s.first().calls("settled() = 5; tick(1); settled() = 4; tick(4); settled() = 0; plug(0,0); settled() = 5")
                .calls("undo(); settled() = 0");
        // Nothing goes on changing when nothing is told anew, so NONE is never due: 40 ticks bring rest to every net.
        s.of("Promise 18", "NONE: none of 0 to 40.");
        s.laid(LIKE.repeat(6) + "m6,9,9;").calls("settled() = 2; tick(12); settled() = 0; mute(0,0,1); settled() = 5")
                .calls("tick(40); settled() = 0");
    }

    private void count() {
        s.of("Promise 19", "How many: 0 LINKS, 1 LINKS that are UP, 2 RANK of END 0, 3 of END 1, 4 MOST, 5 WAIT,"
                + " 6 DRAIN, 7 TICKS, 8 changes that can be UNDONE, 9 letters of THE TEXT.");
        Run x = s.laid(LIKE.repeat(3) + "x8,7;m5,4,3;").calls("write(120); plug(1,0); tick(9)");
        int[] want = {3, 2, 8, 7, 5, 4, 3, 9, 2, 40};
        for (int what = 0; what < want.length; what++) {
            x.calls("count(%d) = %d", what, want[what]);
        }
        x.calls("set(0,1); set(1,2); set(2,6); count(2) = 1; count(3) = 2; count(4) = 6; count(8) = 5; tick(1)");
        x.calls("tick(1); count(8) = 6; count(7) = 11");
        s.of("Promise 19", "BAD.");
        x.calls("count(-1) = BAD; count(10) = BAD; count(MIN) = BAD; count(MAX) = BAD");
    }
}
