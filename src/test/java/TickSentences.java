/** Chapter 2 of the terms: what a tick does. */
final class TickSentences {
    private static final String LIKE = Sentences.LIKE;
    private static final String ONE = LIKE + "m1,0,0;";
    private static final String TWO = LIKE.repeat(2) + "m2,0,0;";
    /** END 0 would take LINK 1, END 1 would take LINK 2. */
    private static final String THREE = "l1,9,1,1;l1,1,1,9;l1,5,1,0;m1,0,0;";

    private final Sentences s;

    TickSentences(Sentences s) {
        this.s = s;
    }

    void all() {
        inThisOrder();
        whatComes();
        tooOld();
        downKnowsNothing();
        open();
        lowerRankDecides();
        rankOfTheLowestOpen();
        likeRanks();
        ranked();
        pair();
        firstMost();
        spare();
        downAloneSpare();
        counted();
        waiting();
        readyOrSending();
        begun();
        sends();
        sendsSync();
        flows();
        members();
        wantsNone();
        heldEnds();
        heldTurnsToWhatItWantsThen();
        atOnce();
        heldForDrain();
        fromTheNextTickOn();
        sentOnALinkThatIsDown();
    }

    private void inThisOrder() {
        s.of("Terms", "A TICK, in this order, for each END by what it has itself:");
        Run x = s.laid(LIKE + "m1,0,9;").calls("tick(1) = 0; link(0,0,3) = NONE; link(1,0,3) = NONE");
        x.calls("tick(1) = 0; link(0,0,2) = 4; link(1,0,2) = 4; flow(0,0,0) = NONE; flow(1,0,0) = NONE");
        x.calls("tick(1) = 1; link(0,0,2) = 5; link(1,0,2) = 5; flow(0,0,0) = 0; flow(1,7,0) = 0");
        for (int e = 0; e < 2; e++) {
            x = s.laid("l1,1,1,1;l2,2,2,2;m1,0,0;x" + (1 + e) + "," + (2 - e) + ";");
            x.calls("tick(3) = 1; bundle(0,1) = 1; bundle(1,1) = 1; tell(%1$d,0,1,9) = 1; tick(1) = 0", e);
            x.calls("bundle(%d,1) = 2; bundle(%d,1) = 1; tick(1) = 0; bundle(0,1) = 2; bundle(1,1) = 2", e, 1 - e);
        }
    }

    private void whatComes() {
        s.of("Terms", "(a) WHAT COMES: of each LINK that is UP and on which the other END sent in the TICK ahead,"
                + " it KNOWS KEY, PRIORITY, RANK, SYNC as they were sent, AGE 0.");
        Run x = s.laid("l1,2,3,4;l5,6,7,8;x6,9;m6,0,0;").calls("tick(1)");
        known(x, 0, 0, "NONE", "NONE", "NONE", "NONE", "NONE");
        known(x, 1, 1, "NONE", "NONE", "NONE", "NONE", "NONE");
        x.calls("tell(1,0,0,0) = 3; tell(1,0,1,1) = 4; set(1,2) = 9; tick(1)");
        known(x, 0, 0, "0", "3", "4", "9", "0");
        known(x, 0, 1, "0", "7", "8", "9", "0");
        known(x, 1, 0, "0", "1", "2", "6", "0");
        known(x, 1, 1, "0", "5", "6", "6", "0");
        x.calls("tick(1)");
        known(x, 0, 0, "0", "0", "1", "2", "1");
        known(x, 0, 1, "0", "7", "8", "2", "0");
        known(x, 1, 0, "0", "1", "2", "6", "1");
        known(x, 1, 1, "0", "5", "6", "6", "0");
    }

    private void known(Run x, int e, int l, String... want) {
        for (int i = 0; i < want.length; i++) {
            x.calls("link(%d,%d,%d) = %s", e, l, 3 + i, want[i]);
        }
    }

    private void tooOld() {
        s.of("Terms", "Of another LINK that is UP and of which it KNOWS: AGE is 1 more;"
                + " at 3 it KNOWS nothing of it any more.");
        for (int e = 0; e < 2; e++) {
            Run x = s.laid("l1,2,1,2;m1,0,0;").calls("tick(5) = 1; mute(%d,0,1) = 1; tick(1) = 1", e);
            known(x, 1 - e, 0, "0", "1", "2", "5", "1");
            x.calls("tell(%d,0,0,9) = 1; tick(1)", e);
            known(x, 1 - e, 0, "1", "1", "2", "5", "1");
            x.calls("tick(1)");
            known(x, 1 - e, 0, "2", "1", "2", "5", "1");
            x.calls("tick(1)");
            known(x, 1 - e, 0, "NONE", "NONE", "NONE", "NONE", "NONE");
            x.calls("tick(40)");
            known(x, 1 - e, 0, "NONE", "NONE", "NONE", "NONE", "NONE");
            known(x, e, 0, "0", "1", "2", "5", "0");
        }
        Run x = s.laid(ONE).calls("tick(5); mute(1,0,1); tick(2); link(0,0,3) = 1; mute(1,0,0); tick(1)");
        x.calls("link(0,0,3) = 2");
        x.calls("tick(1); link(0,0,3) = 0; tick(1); link(0,0,3) = 0");
        x = s.laid(ONE).calls("tick(5); mute(1,0,1); tick(3); link(0,0,3) = 2; mute(1,0,0); tick(1)");
        x.calls("link(0,0,3) = NONE");
        x.calls("tick(1); link(0,0,3) = 0");
    }

    private void downKnowsNothing() {
        s.of("Terms", "Of one that is DOWN it KNOWS nothing.");
        Run x = s.laid(TWO).calls("tick(5); plug(0,0); tick(1)");
        for (int e = 0; e < 2; e++) {
            known(x, e, 0, "NONE", "NONE", "NONE", "NONE", "NONE");
            known(x, e, 1, "0", "1", "1", "5", "1");
        }
        x = s.laid(TWO).calls("tick(5); mute(1,1,1); tick(2); link(0,1,3) = 1; plug(1,0); tick(1); link(0,1,3) = NONE");
        x.calls("plug(1,1); tick(3); link(0,1,3) = NONE; link(1,1,3) = 0");
    }

    private void open() {
        s.of("Terms", "(b) CHOSEN: OPEN are LINKS of which it KNOWS.");
        Run x = s.laid(TWO).calls("bundle(0,0) = 0; tick(1); bundle(0,0) = 0; tick(1); bundle(0,0) = 3");
        x.calls("bundle(1,0) = 3");
        x.calls("mute(1,0,1); tick(3); link(0,0,3) = 2; bundle(0,0) = 3; tick(1); bundle(0,0) = 2; bundle(1,0) = 3");
        x.calls("plug(1,0); tick(1); bundle(0,0) = 0; bundle(1,0) = 1; bundle(0,1) = 0; bundle(1,1) = 1");
    }

    private void lowerRankDecides() {
        s.of("Terms", "The END decides that has the lower RANK (its own;");
        String[] ranks = {"x0,9;", "x0,1;", "x4,5;", "x8,9;"};
        String[] turned = {"x9,0;", "x1,0;", "x5,4;", "x9,8;"};
        for (int i = 0; i < ranks.length; i++) {
            s.laid(THREE + ranks[i]).calls("tick(2); bundle(0,1) = 2; bundle(1,1) = 2");
            s.laid(THREE + turned[i]).calls("tick(2); bundle(0,1) = 4; bundle(1,1) = 4");
        }
        Run x = s.laid(THREE + "x4,5;").calls("tick(2); set(1,3); tick(1); bundle(0,1) = 2; bundle(1,1) = 4");
        x.calls("tick(1); bundle(0,1) = 4; bundle(1,1) = 4");
        x.calls("set(0,2); tick(1); bundle(0,1) = 2; bundle(1,1) = 4; tick(1); bundle(1,1) = 2");
    }

    private void rankOfTheLowestOpen() {
        s.of("Terms", "that of the other one as it KNOWS of the lowest OPEN LINK);");
        Run x = s.laid(THREE + "x4,5;").calls("tick(5); bundle(0,1) = 2; mute(1,0,1); tick(1); set(1,3) = 5; tick(2)");
        x.calls("link(0,0,3) = 2; link(0,0,6) = 5; link(0,1,6) = 3; link(0,2,6) = 3; bundle(0,1) = 2; bundle(1,1) = 4");
        x.calls("tick(1); link(0,0,6) = NONE; bundle(0,1) = 4");
        x = s.laid(THREE + "x5,4;").calls("tick(5); bundle(1,1) = 4; mute(0,0,1); tick(1); set(0,3) = 5; tick(2)");
        x.calls("link(1,0,3) = 2; link(1,0,6) = 5; link(1,1,6) = 3; link(1,2,6) = 3; bundle(1,1) = 4; bundle(0,1) = 2");
        x.calls("tick(1); link(1,0,6) = NONE; bundle(1,1) = 2");
        x = s.laid(THREE + "x4,5;").calls("tick(5); mute(1,2,1); tick(1); set(1,3) = 5; tick(2)");
        x.calls("link(0,2,6) = 5; link(0,0,6) = 3; bundle(0,1) = 4");
    }

    private void likeRanks() {
        s.of("Terms", "END 0 of like ones.");
        for (int r = 0; r <= 9; r++) {
            s.laid(THREE + "x" + r + "," + r + ";").calls("tick(2); bundle(0,1) = 2; bundle(1,1) = 2");
        }
        s.laid(THREE).calls("tick(2); bundle(0,1) = 2; bundle(1,1) = 2");
    }

    private void ranked() {
        s.of("Terms", "OPEN LINKS are ranked by PRIORITY at the END that decides (its own, or as it KNOWS),"
                + " the lowest first, then by number.");
        String links = "l1,9,1,0;l1,0,1,9;l1,5,1,5;l1,5,1,5;m1,0,0;";
        int[] byZero = {2, 6, 14, 15};
        int[] byOne = {1, 5, 13, 15};
        for (int most = 1; most <= 4; most++) {
            Run x = s.laid(links + "x1,2;").calls("set(2,%d); tick(2)", most);
            x.calls("bundle(0,1) = %1$d; bundle(1,1) = %1$d", byZero[most - 1]);
            x = s.laid(links + "x2,1;").calls("set(2,%d); tick(2)", most);
            x.calls("bundle(0,1) = %1$d; bundle(1,1) = %1$d", byOne[most - 1]);
        }
        Run x = s.laid(LIKE.repeat(6) + "m1,0,0;").calls("tick(2); bundle(0,1) = 1; bundle(1,1) = 1");
        x.calls("tell(0,5,1,0); tick(1); bundle(0,1) = 32; bundle(1,1) = 1; tick(1); bundle(1,1) = 32");
        x.calls("tell(0,4,1,0); tick(2); bundle(0,1) = 16; bundle(1,1) = 16; tell(1,0,1,0); tick(3); bundle(0,1) = 16");
    }

    private void pair() {
        s.of("Terms", "The first of them tells a pair: its own KEY there and the KEY it KNOWS;");
        Run x = s.laid("l1,1,1,1;l1,2,2,2;l2,3,1,3;l1,4,1,4;m6,0,0;x1,2;");
        x.calls("tick(2); bundle(0,0) = 15; bundle(0,1) = 9; bundle(1,1) = 9; tell(1,3,0,7) = 1; tick(1)");
        x.calls("bundle(0,1) = 9; bundle(1,1) = 1; tick(1); bundle(0,1) = 1; tell(0,3,0,7) = 1; tell(1,3,0,1) = 7");
        x.calls("tick(2)");
        x.calls("bundle(0,1) = 1; bundle(1,1) = 1; tell(1,1,0,1) = 2; tick(1); bundle(0,1) = 1; bundle(1,1) = 3");
        x.calls("tick(1); bundle(0,1) = 3");
        s.laid("l0,1,9,1;l9,2,0,2;l0,3,9,3;m6,0,0;").calls("tick(2); bundle(0,1) = 5; bundle(1,1) = 5");
        s.laid("l1,5,1,5;l2,1,2,1;l2,6,2,6;m6,0,0;").calls("tick(2); bundle(0,1) = 6; bundle(1,1) = 6");
        s.laid("l1,5,1,1;l2,1,2,5;x5,4;m6,0,0;").calls("tick(2); bundle(0,1) = 1; bundle(1,1) = 1");
    }

    private void firstMost() {
        s.of("Terms", "CHOSEN are the first MOST of all OPEN LINKS of that pair.");
        for (int links = 1; links <= 6; links++) {
            for (int most = 1; most <= 6; most++) {
                Run x = s.laid(LIKE.repeat(links) + "m" + most + ",0,0;").calls("tick(2)");
                x.calls("bundle(0,1) = %1$d; bundle(1,1) = %1$d", (1 << Math.min(links, most)) - 1);
            }
        }
        s.laid("l1,1,1,1;l2,2,2,2;l1,3,1,3;m2,0,0;").calls("tick(2); bundle(0,1) = 5; bundle(1,1) = 5");
        s.laid("l1,9,1,9;l1,1,1,1;l1,5,1,5;m2,0,0;").calls("tick(2); bundle(0,1) = 6; bundle(1,1) = 6");
        s.laid(LIKE.repeat(3) + "m2,0,0;").calls("plug(0,0); tick(2); bundle(0,1) = 6; plug(1,0); tick(1)")
                .calls("bundle(0,1) = 4");
    }

    private void spare() {
        s.of("Terms", "SPARE are the other OPEN ones.");
        Run x = s.laid("l1,1,1,1;l1,2,1,2;l2,3,2,3;m1,0,0;").calls("tick(2)");
        for (int e = 0; e < 2; e++) {
            x.calls("link(%1$d,0,2) = 4; link(%1$d,1,2) = 2; link(%1$d,2,2) = 2", e);
            x.calls("link(%1$d,0,8) = 0; link(%1$d,1,8) = NONE; link(%1$d,2,8) = NONE", e);
        }
        x.calls("plug(0,0); tick(1); link(0,1,2) = 4; link(0,2,2) = 2; plug(1,0); tick(1); link(0,2,2) = 4");
    }

    private void downAloneSpare() {
        s.of("Terms", "(c) HOW a LINK is: 0 DOWN; 1 ALONE: UP, not OPEN; 2 SPARE;");
        Run x = s.laid(LIKE.repeat(4) + "m1,0,0;").calls("mute(1,2,1); plug(3,0); mute(1,3,1); tick(4)");
        x.calls("link(0,0,2) = 5; link(0,1,2) = 2; link(0,2,2) = 1; link(0,3,2) = 0");
        x.calls("link(1,0,2) = 5; link(1,1,2) = 2; link(1,2,2) = 2; link(1,3,2) = 0");
        x.calls("plug(3,1); plug(0,0); plug(2,0); tick(1); link(0,3,2) = 1; link(1,3,2) = 1; link(0,0,2) = 0");
        x.calls("link(1,2,2) = 0");
    }

    private void counted() {
        s.of("Terms", "of a CHOSEN one: its COUNT is 0 in the TICK in which it is CHOSEN and was not in the TICK ahead,"
                + " else 1 more;");
        Run x = s.laid("l1,1,1,1;l1,2,1,2;m1,1,0;").calls("tick(1); link(0,0,8) = NONE; tick(1); link(0,0,8) = 0");
        x.calls("tick(1); link(0,0,8) = 1; tick(1); link(0,0,8) = 2; tick(40); link(0,0,8) = 42; link(1,0,8) = 42");
        x.calls("tell(0,0,1,9); tick(1); link(0,0,8) = NONE; link(0,1,8) = 0; link(1,0,8) = 43; link(1,1,8) = NONE");
        x.calls("tell(0,0,1,0); tick(1); link(0,0,8) = 0; link(0,1,8) = NONE; link(1,0,8) = NONE; link(1,1,8) = 0");
        x.calls("tick(1); link(0,0,8) = 1; link(1,0,8) = 0; link(1,1,8) = NONE");
        x.calls("plug(0,0); tick(1); link(0,0,8) = NONE; plug(0,1); tick(1); link(0,0,8) = NONE; tick(1)");
        x.calls("link(0,0,8) = 0");
    }

    private void waiting() {
        s.of("Terms", "3 WAITING, if COUNT is below WAIT;");
        for (int wait = 0; wait <= 9; wait++) {
            Run x = s.laid(LIKE + "m1," + wait + ",0;").calls("tick(1); link(0,0,2) = 1");
            for (int count = 0; count < wait; count++) {
                x.calls("tick(1) = 0; link(0,0,2) = 3; link(1,0,2) = 3; link(0,0,8) = %d", count);
            }
            x.calls("tick(1) = 0; link(0,0,2) = 4; link(1,0,2) = 4; link(0,0,8) = %d; tick(1) = 1", wait);
        }
        Run x = s.laid(LIKE + "m1,3,0;").calls("tick(6) = 1; mute(1,0,1); tick(4); link(0,0,2) = 1; link(1,0,2) = 5");
        x.calls("mute(1,0,0); tick(2); link(0,0,7) = 1; link(0,0,8) = 0; link(0,0,2) = 3; tick(2); link(0,0,2) = 3");
        x.calls("link(0,0,7) = 1; tick(1); link(0,0,8) = 3; link(0,0,2) = 5");
    }

    private void readyOrSending() {
        s.of("Terms", "4 READY, if not, and it KNOWS no SYNC of it; 5 SENDING, if it KNOWS SYNC.");
        Run x = s.laid(ONE).calls("mute(0,0,1); tick(2); link(0,0,2) = 4; tick(38); link(0,0,2) = 4; link(1,0,2) = 1");
        x.calls("mute(0,0,0); tick(1); link(0,0,2) = 4; link(1,0,2) = 1; tick(1); link(0,0,2) = 4; link(1,0,2) = 5");
        x.calls("link(0,0,7) = 0; link(1,0,7) = 1; tick(1) = 1; link(0,0,2) = 5; link(0,0,7) = 1");
        x.calls("mute(0,0,1); tick(3) = 1; link(1,0,3) = 2; link(1,0,2) = 5; tick(1); link(0,0,2) = 5");
        x.calls("link(1,0,2) = 1");
        x.calls("tick(1); link(0,0,2) = 4; link(0,0,7) = 0");
    }

    private void begun() {
        s.of("Terms", "BEGUN of a LINK: in how many TICKS it was SENDING and not in the one ahead.");
        Run x = s.laid(TWO).calls("link(0,0,9) = 0; tick(2); link(0,0,9) = 0; tick(1); link(0,0,9) = 1");
        x.calls("link(1,1,9) = 1");
        x.calls("tick(40); link(0,0,9) = 1; link(1,1,9) = 1");
        for (int i = 2; i <= 6; i++) {
            x.calls("plug(0,0); tick(1); plug(0,1); tick(2); link(0,0,2) = 4; link(0,0,9) = %d; link(1,0,9) = %1$d", i - 1);
            x.calls("tick(1); link(0,0,9) = %1$d; link(1,0,9) = %1$d; link(0,1,9) = 1; link(1,1,9) = 1", i);
        }
        x.calls("mute(0,1,1); tick(4); link(1,1,2) = 1; link(0,1,2) = 5; mute(0,1,0); tick(2); link(1,1,2) = 5");
        x.calls("link(1,1,9) = 2; link(0,1,2) = 4; link(0,1,9) = 1; tick(1); link(0,1,2) = 5; link(0,1,9) = 2");
    }

    private void sends() {
        s.of("Terms", "(d) It sends, on each LINK that is UP and on which it is not MUTE,"
                + " KEY, PRIORITY, RANK as they are,");
        Run x = s.laid(TWO).calls("mute(0,0,1); tick(2); link(1,0,3) = NONE; link(1,1,3) = 0; link(0,0,3) = 0");
        x.calls("link(0,1,3) = 0");
        x.calls("plug(1,0); tick(1); plug(1,1); tick(1); link(0,1,3) = NONE; link(1,1,3) = NONE; tick(1)");
        x.calls("link(0,1,3) = 0");
        x = s.laid(TWO).calls("tell(1,1,0,8); tell(1,1,1,7); set(1,6); tick(1); tell(1,1,0,2); tell(1,1,0,3)");
        x.calls("set(1,4)");
        x.calls("tick(1); link(0,1,4) = 8; link(0,1,5) = 7; link(0,1,6) = 6; link(0,0,4) = 1; link(0,0,6) = 6");
        x.calls("tick(1); link(0,1,4) = 3; link(0,1,5) = 7; link(0,1,6) = 4; link(0,0,6) = 4; link(1,1,4) = 1");
        x.calls("link(1,1,6) = 5");
    }

    private void sendsSync() {
        s.of("Terms", "and SYNC, if the LINK is READY or SENDING.");
        Run x = s.laid("l1,1,1,1;l1,2,1,2;l1,3,1,3;m1,1,0;").calls("mute(1,2,1); tick(2); link(0,0,2) = 3");
        x.calls("link(0,0,7) = 0");
        x.calls("tick(1); link(0,0,2) = 4; link(0,0,7) = 0; link(1,0,7) = 0");
        x.calls("tick(1); link(0,0,2) = 5; link(0,0,7) = 1; link(1,0,7) = 1; tick(1); link(0,0,7) = 1; tick(9)");
        x.calls("link(1,0,7) = 1");
        x.calls("link(0,1,2) = 2; link(0,1,7) = 0; link(1,1,7) = 0; link(0,2,2) = 1; link(1,2,3) = 0; link(1,2,7) = 0");
    }

    private void flows() {
        s.of("Terms", "(e) FLOWS 0 to 7:");
        Run x = s.laid(ONE).calls("tick(3)");
        for (int f = 0; f < 8; f++) {
            x.calls("flow(0,%1$d,0) = 0; flow(1,%1$d,0) = 0; frame(0,%1$d) = 0; frame(1,%1$d) = 0", f);
        }
        for (String f : new String[] {"-1", "8", "9", "-4", "MIN", "MAX"}) {
            x.calls("flow(0,%1$s,0) = BAD; flow(1,%1$s,2) = BAD; frame(0,%1$s) = BAD; frame(1,%1$s) = BAD", f);
        }
        x.calls("frames(0,0) = 8; frames(1,0) = 8");
    }

    private void members() {
        s.of("Terms", "MEMBERS are its LINKS that are SENDING, by number; n being how many,"
                + " a FLOW f WANTS the MEMBER (7 times f and 3) modulo n (0 the first);");
        for (int n = 1; n <= 6; n++) {
            Run x = s.laid(LIKE.repeat(n) + "m6,0,0;").calls("tick(3)");
            for (int f = 0; f < 8; f++) {
                x.calls("flow(0,%1$d,2) = %2$d; flow(1,%1$d,2) = %2$d; flow(0,%1$d,0) = %2$d", f, (7 * f + 3) % n);
            }
        }
        Run x = s.laid(LIKE.repeat(6) + "m6,0,0;").calls("plug(0,0); plug(2,0); tick(3) = 1; bundle(0,2) = 58");
        int[] ofFour = {5, 4, 3, 1, 5, 4, 3, 1};
        for (int f = 0; f < 8; f++) {
            x.calls("flow(0,%1$d,2) = %2$d; flow(1,%1$d,2) = %2$d", f, ofFour[f]);
        }
        x = s.laid("l1,3,1,3;l1,2,1,2;l1,1,1,1;m2,0,0;").calls("tick(3); bundle(0,2) = 6; flow(0,0,2) = 2");
        x.calls("flow(0,1,2) = 1");
        x = s.laid(LIKE.repeat(3) + "m3,0,0;").calls("mute(1,1,1); tick(5); link(1,1,2) = 4; bundle(1,1) = 7");
        x.calls("bundle(1,2) = 5");
        x.calls("flow(1,0,2) = 2; flow(1,1,2) = 0; flow(0,0,2) = 2; flow(0,1,2) = 0");
    }

    private void wantsNone() {
        s.of("Terms", "none, if n is 0.");
        Run x = s.laid(TWO).calls("flow(0,0,2) = NONE; tick(2); flow(0,0,2) = NONE; flow(1,7,2) = NONE; tick(1)");
        x.calls("flow(0,0,2) = 1");
        x.calls("plug(0,0); plug(1,0); tick(1)");
        for (int f = 0; f < 8; f++) {
            x.calls("flow(0,%1$d,2) = NONE; flow(1,%1$d,2) = NONE; flow(0,%1$d,0) = NONE; flow(1,%1$d,0) = NONE", f);
        }
    }

    /** FLOW 0 goes on LINK 0 of three, on LINK 2 of the last two; FLOW 1 on LINK 1 of both. */
    private Run moving(int drain) {
        return s.laid(LIKE.repeat(3) + "m6,0," + drain + ";").calls("tick(3) = 1; flow(0,0,0) = 0; plug(0,0); tick(1)");
    }

    private void heldEnds() {
        s.of("Terms", "A FLOW that is HELD: HELD is 1 less;");
        for (int drain = 1; drain <= 9; drain++) {
            Run x = moving(drain);
            for (int left = drain; left > 0; left--) {
                x.calls("flow(0,0,1) = %1$d; flow(1,6,1) = %1$d; flow(0,0,0) = 0; tick(1)", left);
            }
            x.calls("flow(0,0,1) = 0; flow(1,6,1) = 0; flow(0,0,0) = 2; tick(1); flow(0,0,1) = 0");
        }
        Run x = moving(7).calls("plug(0,1); tick(3); flow(0,0,2) = 0; flow(0,0,0) = 0; flow(0,0,1) = 4");
        x.calls("tick(3); flow(0,0,1) = 1; tick(1); flow(0,0,1) = 0; flow(0,0,0) = 0");
        moving(3).calls("tick(1); plug(1,0); tick(1); flow(0,1,1) = 3; flow(0,0,1) = 1");
    }

    private void heldTurnsToWhatItWantsThen() {
        s.of("Terms", "at 0 its LINK is what it WANTS then.");
        moving(3).calls("flow(0,0,2) = 2; plug(2,0); tick(2); flow(0,0,0) = 0; flow(0,0,2) = 1; tick(1)")
                .calls("flow(0,0,0) = 1");
        Run x = moving(2).calls("plug(1,0); plug(2,0); tick(1); flow(0,0,0) = 0; flow(0,0,2) = NONE; flow(0,0,1) = 1");
        x.calls("tick(1); flow(0,0,0) = NONE; flow(0,0,1) = 0");
        x = moving(2).calls("tick(1); plug(2,0); tick(1); flow(0,0,0) = 1; flow(0,0,1) = 0; flow(0,2,1) = 2");
        x.calls("flow(0,2,0) = 2");
        moving(1).calls("tick(1); flow(0,0,0) = 2; plug(2,0); tick(1); flow(0,0,1) = 1; flow(0,0,0) = 2; tick(1)")
                .calls("flow(0,0,0) = 1");
    }

    private void atOnce() {
        s.of("Terms", "Else, if what it WANTS is not its LINK: it is that at once, if it had no LINK, or WANTS none,"
                + " or DRAIN is 0;");
        Run x = s.laid(LIKE.repeat(3) + "m6,0,9;").calls("tick(2); flow(0,0,0) = NONE; tick(1); flow(0,0,0) = 0");
        x.calls("flow(0,0,1) = 0");
        x.calls("flow(0,1,0) = 1; flow(0,1,1) = 0; plug(0,0); plug(1,0); plug(2,0); tick(1)");
        x.calls("flow(0,0,0) = NONE; flow(0,0,1) = 0; flow(0,1,0) = NONE; flow(0,1,1) = 0");
        x.calls("plug(1,1); tick(3); flow(0,0,0) = 1; flow(0,0,1) = 0; flow(1,2,0) = 1; flow(1,2,1) = 0");
        moving(0).calls("flow(0,0,0) = 2; flow(0,0,1) = 0; flow(0,1,0) = 1; flow(1,3,0) = 1; flow(1,3,1) = 0");
        moving(9).calls("flow(0,1,0) = 1; flow(0,1,1) = 0; flow(0,1,2) = 1; flow(0,2,0) = 2; flow(0,2,1) = 0");
    }

    private void heldForDrain() {
        s.of("Terms", "else it is HELD, for DRAIN TICKS (its LINK stays till then).");
        int[] was = {0, 1, 2, 0, 1, 2, 0, 1};
        int[] wants = {2, 1, 2, 1, 2, 1, 2, 1};
        for (int drain = 1; drain <= 9; drain++) {
            Run x = moving(drain);
            for (int f = 0; f < 8; f++) {
                x.calls("flow(0,%1$d,0) = %2$d; flow(1,%1$d,0) = %2$d; flow(0,%1$d,2) = %3$d", f, was[f], wants[f]);
                x.calls("flow(0,%1$d,1) = %2$d; flow(1,%1$d,1) = %2$d", f, was[f] == wants[f] ? 0 : drain);
            }
            x.calls("tick(%d)", drain);
            for (int f = 0; f < 8; f++) {
                x.calls("flow(0,%1$d,0) = %2$d; flow(1,%1$d,0) = %2$d; flow(0,%1$d,1) = 0", f, wants[f]);
            }
            if (drain > 1) {
                moving(drain).calls("tick(%d); flow(0,0,0) = 0; flow(0,3,0) = 0; flow(0,5,0) = 2", drain - 1);
            }
        }
    }

    private void fromTheNextTickOn() {
        s.of("Terms", "A LINK told UP or DOWN, MUTE or not, a KEY, PRIORITY, RANK, MOST told anew:"
                + " counts from the next TICK on");
        String looks = "bundle(0,0) = 3; bundle(0,1) = 3; bundle(0,2) = 3; bundle(1,2) = 3; agreed() = 1; link(0,0,2) = 5; "
                + "link(0,0,3) = 0; link(0,0,4) = 1; link(0,0,8) = 3; flow(0,0,0) = 1; flow(0,0,2) = 1";
        Run x = s.laid(TWO).calls("tick(5); plug(0,0)").calls(looks).calls("frame(0,1) = 0; tick(1); bundle(0,0) = 2");
        x.calls("link(0,0,2) = 0; plug(0,1); link(0,0,2) = 0; tick(1); link(0,0,2) = 1");
        x = s.laid(TWO).calls("tick(5); mute(1,0,1)").calls(looks).calls("tick(1); link(0,0,3) = 0; tick(1)");
        x.calls("link(0,0,3) = 1");
        x.calls("mute(1,0,0); link(0,0,3) = 1; tick(1); link(0,0,3) = 2; tick(1); link(0,0,3) = 0");
        x = s.laid(TWO).calls("tick(5); tell(1,0,0,9)").calls(looks).calls("link(1,0,0) = 9; tick(1); bundle(1,1) = 1");
        x.calls("bundle(0,1) = 3; link(0,0,4) = 1; tick(1); bundle(0,1) = 1; link(0,0,4) = 9");
        s.laid(TWO).calls("tick(5); tell(0,0,0,9)").calls(looks).calls("link(0,0,0) = 9; tick(1); bundle(0,1) = 1")
                .calls("bundle(1,1) = 3");
        x = s.laid(TWO).calls("tick(5); tell(0,0,1,9)").calls(looks).calls("link(0,0,1) = 9; set(2,1) = 2").calls(looks);
        x.calls("tick(1); bundle(0,1) = 2; bundle(1,1) = 1; tick(1); bundle(1,1) = 2");
        x = s.laid(THREE + "x4,5;").calls("tick(5); set(1,3); count(3) = 3; bundle(0,1) = 2; bundle(1,1) = 2");
        x.calls("agreed() = 1");
        x.calls("link(0,0,6) = 5; tick(1); bundle(1,1) = 4; bundle(0,1) = 2; link(0,0,6) = 5; tick(1)");
        x.calls("bundle(0,1) = 4");
        x = s.laid(THREE + "x5,4;").calls("tick(5); set(0,3); count(2) = 3; bundle(0,1) = 4; bundle(1,1) = 4");
        x.calls("link(0,1,2) = 2; link(0,2,2) = 5; agreed() = 1; link(1,0,6) = 5; tick(1); bundle(0,1) = 2");
        x.calls("bundle(1,1) = 4; tick(1); bundle(1,1) = 2");
        s.laid(TWO).calls("tick(5); set(2,1)").calls(looks).calls("tick(1) = 1; bundle(0,1) = 1; bundle(1,1) = 1");
    }

    private void sentOnALinkThatIsDown() {
        s.of("Terms", "(what was sent on a LINK that is DOWN then does not come).");
        Run x = s.laid(ONE).calls("tick(1); plug(0,0); tick(1); link(0,0,3) = NONE; link(1,0,3) = NONE; plug(0,1)");
        x.calls("tick(1); link(0,0,3) = NONE; link(1,0,3) = NONE; tick(1); link(0,0,3) = 0; link(1,0,3) = 0");
        s.laid(ONE).calls("tick(1); plug(0,0); plug(0,1); tick(1); link(0,0,3) = 0; link(1,0,3) = 0");
        s.laid(ONE).calls("plug(0,0); tick(1); plug(0,1); tick(1); link(0,0,3) = NONE; tick(1); link(0,0,3) = 0");
    }
}
