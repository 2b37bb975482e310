/** Boundary cases of games, best moves and what comes of protocols: a test of its own for each sentence (promises 21 to 33). */
public final class BoundariesOfGames {
    // Cuts 1 (012|3), 5 (01|23), 21 (0|123): A wins 1, 2, 2 seats, B and C none; votes are 14, 8, 1.
    private static final String ROW = "4/2;0-1;1-2;2-3;0:5,1;1:1,4;2:2,3,1;3:6,0";
    private static final String BARE_ROW = "4/2;0-1;1-2;2-3";
    // Cuts 6 (01|2|3): A, A, B; 22 (0|12|3): A, nobody, B; 26 (0|1|23): A, B, A.
    private static final String THREE = "4/3;0-1;1-2;2-3;0:3,0;1:0,2;2:2,0;3:0,1";
    private static final String FOUR = "4/4;0:1,0;1:0,1;2:0,0,1";
    private static final String RING = "6/3;0-1;1-2;2-3;3-4;4-5;5-0";
    private static final String RING_OF_FIVE = "5/2;0-1;1-2;2-3;3-4;4-0";
    private static final String PAIR = "2/1;0-1;0:1,0";
    private static final String TORN = "2/1;0:1,0;1:0,2";
    // The only cut is 01; what is left when one is kept can not be halved.
    private static final String TWO_ALONE = "2/2;0:1,0;1:0,1";
    private static final int HALVES_OF_ROW = 83;
    private static final int OVER = 8;
    private static final int BROKEN = 9;

    public static void main(String[] args) {
        Due.runAll(BoundariesOfGames.class);
    }

    // ---- the constants, and how long an object lives ----

    static void constantNone() {
        Due.says(0, "The constants: `NONE = -1`: None; refused.");
        Due.due("NONE", TwoPencils.NONE, -1);
        TwoPencils x = Due.game(PAIR, "a");
        Due.due("all(0, NONE)", x.all(0, TwoPencils.NONE), 1);
        Due.due("kept(0, NONE)", x.kept(0, TwoPencils.NONE), 0);
    }

    static void constantHidden() {
        Due.says(0, "`HIDDEN = -100`: Not told.");
        Due.due("HIDDEN", TwoPencils.HIDDEN, -100);
        TwoPencils x = Due.game("4/4;0:0,1;1:0,1;2:0,1;3:0,1", "a");
        Due.due("no value is as low", x.value(0, 0), -4);
        Due.due("of no game", x.value(1, 0), TwoPencils.HIDDEN);
    }

    static void movesFor512Calls() {
        Due.says(0, "An object is used for at most 512 calls after it has been made; what later calls answer is free.");
        TwoPencils x = new TwoPencils();
        // 4/4 and a>b
        x.feed(0x342f3400, 0, 0, 0, 0);
        Due.due("land()", x.land(), 0);
        x.feed(0x613e6200, 0, 0, 0, 0);
        Due.due("protocol()", x.protocol(), 0);
        Due.due("game(0, 0)", x.game(0, 0), 0);
        int calls = 5;
        int[] moves = {27, 0, 6, 0, 1, 0, 0, 0};
        for (int round = 0; round < 31; round++) {
            Due.play(x, 0, moves);
            for (int i = 0; i < 8; i++) {
                Due.due("undo(0)", x.undo(0), true);
            }
            calls += 16;
        }
        Due.due("undo(0)", x.undo(0), false);
        Due.play(x, 0, moves);
        calls += 9;
        Due.due("calls", calls, 510);
        Due.due("the 511th: phase(0)", x.phase(0), OVER);
        Due.due("the 512th: kept(0, 3)", x.kept(0, 3), Due.bits(3));
        x.undo(0);
        x.move(0, 0);
    }

    static void tapesFor512Calls() {
        Due.says(0, "An object is used for at most 512 calls after it has been made; what later calls answer is free.");
        TwoPencils x = new TwoPencils();
        for (int i = 0; i < 510; i += 2) {
            Due.due("feed", x.feed(-1, -1, -1, -1, -1), 20);
            Due.due("end(0)", x.end(0), true);
        }
        Due.due("the 511th: feed", x.feed(0x61, 0, 0, 0, 0), 1);
        Due.due("the 512th: protocol()", x.protocol(), 0);
        x.count(1);
    }

    static void dearCallsFor512Calls() {
        Due.says(0, "An object is used for at most 512 calls after it has been made; what later calls answer is free.");
        TwoPencils x = Due.lands("9/4", "9/4", "9/4", "9/4", "9/4", "9/4");
        int calls = 12;
        Due.protocols(x, "a>b", "b>a", "a+b", "a/b", "a>b,b>a", "a>b,a+b", "b", "a");
        calls += 24;
        for (; calls < 510; calls += 2) {
            x.vote(calls % 6, calls % 9, calls % 3, calls % 100);
            Due.due("worst: none can be cut", x.worst(calls % 8), -1);
        }
        Due.due("the 511th: worse(0, 7)", x.worse(0, 7), 0);
        Due.due("the 512th: count(0)", x.count(0), 6);
        x.worst(0);
    }

    // ---- terms: games ----

    static void allIsOpenAtFirst() {
        Due.says(0, "A GAME of a LAND: at first all PARISHES are OPEN and all its SEATS are to come.");
        TwoPencils x = Due.game(THREE, "a>b");
        Due.at(x, 0, 0, 0, 0);
        Due.noMove(x, 0, Due.cut(0, 0, 1, 1));
        Due.noMove(x, 0, Due.cut(0, 0, 0, 1));
        Due.noMove(x, 0, Due.cut(0, 1, 2, 3));
        Due.play(x, 0, Due.cut(0, 1, 2, 2));
        Due.noMove(x, 0, 3);
        Due.play(x, 0, 2);
        Due.at(x, 0, 0, 0, 1);
    }

    static void roundsGoRound() {
        Due.says(0, "ROUNDS go in order, from the first anew behind the last, till it is over:");
        // Who draws in each of four rounds, which keep one of four seats each.
        String[] protocols = {"a>b", "b>a", "a>b,b>a", "b>a,a>b,a>b", "a>b,a>b,b>a", "a>b,b>a,b>a,a>b", "b>a,b>a,a>b,a>b,b>a,a"};
        int[][] drawers = {{0, 0, 0, 0}, {1, 1, 1, 1}, {0, 1, 0, 1}, {1, 0, 0, 1}, {0, 0, 1, 0}, {0, 1, 1, 0}, {1, 1, 0, 0}};
        int[] cuts = {27, 6, 1, 0};
        TwoPencils x = Due.lands(FOUR);
        Due.protocols(x, protocols);
        for (int p = 0; p < protocols.length; p++) {
            int g = x.game(0, p);
            for (int round = 0; round < 4; round++) {
                Due.at(x, g, 0, drawers[p][round], round);
                Due.play(x, g, cuts[round]);
                Due.at(x, g, 1, 1 - drawers[p][round], round);
                Due.play(x, g, 0);
            }
            Due.at(x, g, OVER, -1, 4);
        }
    }

    static void roundsOfOtherKinds() {
        Due.says(0, "ROUNDS go in order, from the first anew behind the last, till it is over:");
        String[] second = {"a", "b", "b+a", "a/b"};
        int[] phase = {2, 2, BROKEN, 5};
        int[] turn = {0, 1, -1, 0};
        for (int i = 0; i < 4; i++) {
            TwoPencils x = Due.game(FOUR, "a>b," + second[i] + ",b>a", 27, 0);
            Due.at(x, 0, phase[i], turn[i], 1);
        }
        // What stands behind a round that ends the game is never played.
        TwoPencils y = Due.game(FOUR, "a,b>a", 27);
        Due.at(y, 0, OVER, -1, 4);
    }

    static void drawnOfAllThatIsOpen() {
        Due.says(0, "a>b: a draws a LAWFUL CUT of all OPEN PARISHES into the SEATS to come;");
        // 5 and 0 must stay together.
        TwoPencils x = Due.game(RING + ";5=0", "a>b");
        Due.noMove(x, 0, Due.cut(0, 0, 1, 1, 2, 2));
        Due.noMove(x, 0, Due.cut(0, 1, 0, 1, 2, 0));
        Due.noMove(x, 0, Due.cut(0, 1, 1, 1, 1, 0));
        Due.noMove(x, 0, Due.cut(0, 2, 2, 1, 1, 0));
        Due.play(x, 0, Due.cut(0, 1, 1, 2, 2, 0));
    }

    static void drawnOfWhatIsLeftOpen() {
        Due.says(0, "a draws a LAWFUL CUT of all OPEN PARISHES into the SEATS to come;");
        TwoPencils x = Due.game(RING + ";5=0", "a>b", Due.cut(0, 1, 1, 2, 2, 0), 1);
        Due.at(x, 0, 0, 0, 1);
        // {3,4} and {0,5} are left, in a row 3, 4, 5, 0.
        Due.noMove(x, 0, Due.cut(0, 0, 0, 0, 0, 0));
        Due.noMove(x, 0, Due.cut(0, 0, 0, 1, 2, 0));
        Due.noMove(x, 0, Due.cut(0, 0, 0, 1, 1, 1));
        Due.noMove(x, 0, Due.cut(1, 0, 0, 0, 0, 1));
        Due.play(x, 0, Due.cut(0, 0, 0, 1, 0, 0), 1);
        Due.at(x, 0, 0, 0, 2);
        Due.noMove(x, 0, Due.cut(0, 0, 0, 0, 1, 0));
        Due.play(x, 0, 0, 0);
        Due.at(x, 0, OVER, -1, 3);
        int[] kept = {Due.bits(1, 2), Due.bits(3), Due.bits(0, 4, 5)};
        for (int i = 0; i < 3; i++) {
            Due.due("kept(0, " + i + ")", x.kept(0, i), kept[i]);
        }
    }

    static void keptForGood() {
        Due.says(0, "b keeps one of these: it is a SEAT for good, its PARISHES are OPEN no more.");
        int[] cuts = {6, 22, 26};
        int[][] seats = {{3, 4, 8}, {1, 6, 8}, {1, 2, 12}};
        for (int c = 0; c < 3; c++) {
            for (int s = 0; s < 3; s++) {
                TwoPencils x = Due.game(THREE, "a>b", cuts[c]);
                Due.due("kept(0, NONE) before", x.kept(0, -1), 0);
                Due.play(x, 0, s);
                Due.due("kept(0, NONE)", x.kept(0, -1), 1);
                Due.due("kept(0, 0)", x.kept(0, 0), seats[c][s]);
                Due.due("the old cut", x.move(0, cuts[c]), false);
            }
        }
    }

    static void overWithNoSeatToCome() {
        Due.says(0, "With no SEAT to come it is over (0 to come, some OPEN: this can not be).");
        TwoPencils x = Due.game(PAIR, "a>b");
        Due.at(x, 0, 0, 0, 0);
        Due.play(x, 0, 0);
        Due.at(x, 0, 1, 1, 0);
        Due.noMove(x, 0, 1);
        Due.play(x, 0, 0);
        Due.at(x, 0, OVER, -1, 1);
        Due.due("kept(0, 0)", x.kept(0, 0), 3);
        // All parishes are in seats then, whatever is kept first.
        for (int s = 0; s < 2; s++) {
            TwoPencils y = Due.game(ROW, "b>a", 5, s, 0, 0);
            Due.at(y, 0, OVER, -1, 2);
            Due.due("all of them", y.kept(0, 0) | y.kept(0, 1), 15);
        }
    }

    static void allOfItIsKept() {
        Due.says(0, "a: a draws such a CUT: all of it is kept; over.");
        TwoPencils x = Due.game(FOUR, "b");
        Due.at(x, 0, 2, 1, 0);
        Due.noMove(x, 0, Due.cut(0, 1, 2, 2));
        Due.noMove(x, 0, Due.cut(0, 1, 3, 2));
        Due.play(x, 0, 27);
        Due.at(x, 0, OVER, -1, 4);
        for (int s = 0; s < 4; s++) {
            Due.due("kept(0, " + s + ")", x.kept(0, s), 1 << s);
        }
        TwoPencils y = Due.game(PAIR, "a", 0);
        Due.at(y, 0, OVER, -1, 1);
        TwoPencils z = Due.game(THREE, "a>b,b", 26, 1);
        Due.at(z, 0, 2, 1, 1);
        Due.noMove(z, 0, Due.cut(0, 1, 2, 2));
        Due.noMove(z, 0, Due.cut(0, 1, 1, 1));
        Due.noMove(z, 0, 0);
        Due.play(z, 0, Due.cut(0, 0, 1, 1));
        Due.at(z, 0, OVER, -1, 3);
        Due.due("kept(0, 2)", z.kept(0, 2), Due.bits(2, 3));
    }

    static void halves() {
        Due.says(0, "a+b: a draws HALVES: twice as many as SEATS to come, each of PARISHES that hang together, such that two by two can be joined to LAWFUL SEATS;");
        TwoPencils x = Due.game(RING_OF_FIVE + ";1=2", "a+b");
        Due.at(x, 0, 3, 0, 0);
        Due.noMove(x, 0, Due.halves(0, 0, 1, 1, 2));
        Due.noMove(x, 0, Due.halves(0, 1, 2, 3, 4));
        Due.noMove(x, 0, Due.halves(0, 1, 0, 2, 3));
        Due.noMove(x, 0, Due.halves(0, 0, 0, 0, 0));
        // {0,1} goes with {2}, so {3} with {4}.
        Due.play(x, 0, Due.halves(0, 0, 1, 2, 3));
        Due.at(x, 0, 4, 1, 0);
        x.undo(0);
        // {1}, {2}, {3}, {4,0}: {1} and {2} must be one seat.
        Due.play(x, 0, Due.halves(0, 1, 2, 3, 0));
        x.undo(0);
        // {1}, {2} with {3}: 1 and 2 in one seat leaves {4} and {0}, that are beside each other.
        Due.play(x, 0, Due.halves(0, 1, 2, 2, 3));
        x.undo(0);
        // {2}, {3}, {4}, {0,1}, where no 3-4: {2} would go with {3}, {4} with {0,1}, but 1 and 2 stay together.
        TwoPencils y = Due.game("5/2;0-1;1-2;2-3;4-0;1=2", "a+b");
        Due.noMove(y, 0, Due.halves(0, 0, 1, 2, 3));
        Due.play(y, 0, Due.halves(0, 1, 2, 2, 3));
    }

    static void eachHalfHangsTogether() {
        Due.says(0, "each of PARISHES that hang together,");
        TwoPencils x = Due.game("5/2;0-1;0-2;2-3;2-4", "a+b");
        Due.noMove(x, 0, Due.halves(0, 1, 2, 3, 3));
        Due.noMove(x, 0, Due.halves(0, 1, 1, 2, 3));
        Due.play(x, 0, Due.halves(0, 1, 2, 3, 2));
        TwoPencils y = Due.game(RING_OF_FIVE, "b+a");
        Due.noMove(y, 0, Due.halves(0, 1, 2, 3, 2));
        Due.noMove(y, 0, Due.halves(0, 1, 2, 1, 3));
        Due.noMove(y, 0, Due.halves(0, 1, 0, 2, 3));
        Due.play(y, 0, Due.halves(0, 1, 2, 3, 3));
    }

    static void halvesNeedNotBeLawful() {
        Due.says(0, "such that two by two can be joined to LAWFUL SEATS;");
        TwoPencils x = Due.game("2/1;0-1;0=1;>2;0:1,0;1:1,0", "b+a");
        Due.at(x, 0, 3, 1, 0);
        Due.noMove(x, 0, 0);
        Due.play(x, 0, 1);
        Due.at(x, 0, 4, 0, 0);
        Due.play(x, 0, 0);
        Due.at(x, 0, OVER, -1, 1);
        TwoPencils y = Due.lands("2/1;0-1;0=1;>3;0:1,0;1:1,0", "2/1;0=1", BARE_ROW + ";>1;3:9,9");
        Due.protocols(y, "a+b");
        for (int l = 0; l < 3; l++) {
            Due.due("game(" + l + ", 0)", y.game(l, 0), l);
            Due.at(y, l, BROKEN, -1, 0);
        }
    }

    static void eightHalves() {
        Due.says(0, "twice as many as SEATS to come,");
        TwoPencils x = Due.game("9/4;0-1;2-3;4-5;6-7;7-8", "a+b");
        int eight = Due.halves(0, 1, 2, 3, 4, 5, 6, 7, 7);
        Due.noMove(x, 0, Due.halves(0, 1, 2, 3, 4, 5, 6, 6, 6));
        Due.noMove(x, 0, Due.halves(0, 1, 2, 3, 4, 5, 6, 7, 0));
        Due.due("best(0, 0)", x.best(0, 0), Due.halves(0, 1, 2, 3, 4, 5, 6, 6, 7));
        Due.play(x, 0, eight);
        Due.due("best(0, 0)", x.best(0, 0), Due.cut(0, 0, 1, 1, 2, 2, 3, 3, 3));
        Due.play(x, 0, Due.cut(0, 0, 1, 1, 2, 2, 3, 3, 3));
        Due.at(x, 0, OVER, -1, 4);
        TwoPencils y = Due.lands("7/4;0-1;2-3;4-5", "8/4;0-1;2-3;4-5;6-7");
        Due.protocols(y, "a+b");
        Due.due("seven parishes", y.game(0, 0), 0);
        Due.at(y, 0, BROKEN, -1, 0);
        Due.due("eight parishes", y.game(1, 0), 1);
        Due.due("best(1, 0)", y.best(1, 0), Due.halves(0, 1, 2, 3, 4, 5, 6, 7));
    }

    static void joined() {
        Due.says(0, "b joins them so: a CUT of all OPEN PARISHES of which each SEAT is two HALVES; over.");
        int halves = Due.halves(0, 0, 1, 2, 3);
        TwoPencils x = Due.game(RING_OF_FIVE, "a+b", halves);
        Due.at(x, 0, 4, 1, 0);
        Due.noMove(x, 0, Due.cut(0, 0, 0, 0, 1));
        Due.noMove(x, 0, Due.cut(0, 1, 1, 1, 0));
        Due.noMove(x, 0, Due.cut(0, 0, 1, 0, 1));
        Due.noMove(x, 0, Due.cut(0, 0, 0, 0, 0));
        Due.noMove(x, 0, Due.cut(1, 1, 1, 0, 0));
        Due.noMove(x, 0, halves);
        Due.play(x, 0, Due.cut(0, 0, 1, 1, 0));
        Due.at(x, 0, OVER, -1, 2);
        Due.due("kept(0, 0)", x.kept(0, 0), Due.bits(0, 1, 4));
        Due.due("kept(0, 1)", x.kept(0, 1), Due.bits(2, 3));
        x.undo(0);
        Due.play(x, 0, Due.cut(0, 0, 0, 1, 1));
        // Joined they must be lawful: {0,1,4} would have too many heads.
        TwoPencils y = Due.game(RING_OF_FIVE + ";<2;1:1,0;0:1,0;4:1,0", "a+b", halves);
        Due.noMove(y, 0, Due.cut(0, 0, 1, 1, 0));
        Due.due("best(0, 0)", y.best(0, 0), Due.cut(0, 0, 0, 1, 1));
        Due.play(y, 0, Due.cut(0, 0, 0, 1, 1));
    }

    static void halvesOfWhatIsOpen() {
        Due.says(0, "b joins them so: a CUT of all OPEN PARISHES of which each SEAT is two HALVES; over.");
        TwoPencils x = Due.game(THREE, "a>b,b+a", 26, 1);
        // 1 is kept; {0} and {2,3} are left: 0 can not be halved, nor 0 be with 2.
        Due.at(x, 0, BROKEN, -1, 1);
        TwoPencils y = Due.game("6/3;0-1;1-2;2-3;3-4;4-5", "a>b,b+a", Due.cut(0, 0, 1, 1, 2, 2), 1);
        Due.at(y, 0, 3, 1, 1);
        Due.noMove(y, 0, Due.halves(0, 1, 2, 2, 3, 4));
        Due.noMove(y, 0, Due.halves(0, 1, 0, 1, 2, 3));
        Due.play(y, 0, Due.halves(0, 1, 0, 0, 2, 3));
        Due.at(y, 0, 4, 0, 1);
        Due.noMove(y, 0, Due.cut(0, 0, 1, 1, 1, 1));
        Due.play(y, 0, Due.cut(0, 0, 0, 0, 1, 1));
        Due.at(y, 0, OVER, -1, 3);
        Due.due("kept(0, 2)", y.kept(0, 2), Due.bits(4, 5));
    }

    static void joinedThrice() {
        Due.says(0, "such that two by two can be joined to LAWFUL SEATS; b joins them so:");
        int halves = Due.halves(0, 1, 2, 3, 4, 5);
        int one = Due.cut(0, 0, 1, 1, 2, 2);
        int other = Due.cut(0, 1, 1, 2, 2, 0);
        TwoPencils x = Due.game(RING, "a+b", halves);
        Due.due("best(0, 0)", x.best(0, 0), one);
        Due.noMove(x, 0, Due.cut(0, 0, 0, 1, 1, 2));
        Due.noMove(x, 0, Due.cut(0, 1, 0, 1, 2, 2));
        Due.play(x, 0, other);
        x.undo(0);
        Due.play(x, 0, one);
        // Without 5-0 there is but the one way, without 0-1 but the other; without both there is none.
        Due.noMove(Due.game("6/3;0-1;1-2;2-3;3-4;4-5", "a+b", halves), 0, other);
        Due.noMove(Due.game("6/3;5-0;1-2;2-3;3-4;4-5", "a+b", halves), 0, one);
        Due.noMove(Due.game("6/3;3-0;1-2;2-3;3-4;4-5;0-2;3-5", "a+b"), 0, Due.halves(0, 1, 1, 2, 3, 4));
        TwoPencils y = Due.lands("6/3;1-2;2-3;3-4;4-5", "4/2;3-0;3-1;3-2");
        Due.protocols(y, "a+b");
        for (int l = 0; l < 2; l++) {
            Due.due("game(" + l + ", 0)", y.game(l, 0), l);
            Due.at(y, l, BROKEN, -1, 0);
        }
    }

    static void eachHalfIsJoinedOnce() {
        Due.says(0, "a CUT of all OPEN PARISHES of which each SEAT is two HALVES;");
        StringBuilder text = new StringBuilder("6/3;5:9,0");
        for (int p = 0; p < 6; p++) {
            for (int q = 0; q < p; q++) {
                text.append(";" + p + "-" + q + (p < 5 ? ";" + p + ":0,1;" + q + ":0,1" : ""));
            }
        }
        // One seat has 5 in it and is A's, the two others are B's, however halves are joined.
        TwoPencils x = Due.game(text.toString(), "b+a", Due.halves(0, 1, 2, 3, 4, 5));
        Due.due("value(0, 0)", x.value(0, 0), -1);
        Due.due("best(0, 0)", x.best(0, 0), Due.cut(0, 0, 1, 1, 2, 2));
        Due.due("sure(0, 0, 1)", x.sure(0, 0, 1), 1);
    }

    static void twoUnlikeCuts() {
        Due.says(0, "a/b: a draws two unlike CUTS as above, that with the lower number first");
        TwoPencils x = Due.game(ROW, "a/b");
        Due.at(x, 0, 5, 0, 0);
        Due.noMove(x, 0, 21);
        Due.noMove(x, 0, 17);
        Due.noMove(x, 0, 0);
        Due.play(x, 0, 5);
        Due.at(x, 0, 6, 0, 0);
        Due.noMove(x, 0, 5);
        Due.noMove(x, 0, 1);
        Due.noMove(x, 0, 20);
        Due.play(x, 0, 21);
        Due.at(x, 0, 7, 1, 0);
        TwoPencils y = Due.game(THREE, "a>b,b/a", 6, 2);
        // {0,1,2} is left: {0},{1,2} is 0110, {0,1},{2} is 0010.
        Due.at(y, 0, 5, 1, 1);
        Due.noMove(y, 0, Due.cut(0, 1, 1, 0));
        Due.noMove(y, 0, 6);
        Due.play(y, 0, Due.cut(0, 0, 1, 0), Due.cut(0, 1, 1, 0), 1);
        Due.at(y, 0, OVER, -1, 3);
        Due.due("kept(0, 2)", y.kept(0, 2), Due.bits(1, 2));
    }

    static void butOneCut() {
        Due.says(0, "(if there is but one, that is drawn alone, and taken);");
        TwoPencils x = Due.game(FOUR, "b/a");
        Due.at(x, 0, 5, 1, 0);
        Due.due("best(0, 0)", x.best(0, 0), 27);
        Due.noMove(x, 0, 6);
        Due.play(x, 0, 27);
        Due.at(x, 0, OVER, -1, 4);
        Due.due("it was one move: undo(0)", x.undo(0), true);
        Due.at(x, 0, 5, 1, 0);
        Due.due("undo(0)", x.undo(0), false);
        // Two cuts are two, even if they are but two.
        TwoPencils y = Due.game("3/2;0-1;1-2", "a/b", 1);
        Due.at(y, 0, 6, 0, 0);
        Due.noMove(y, 0, 1);
        Due.play(y, 0, 5);
        Due.at(y, 0, 7, 1, 0);
    }

    static void oneOfBothIsTaken() {
        Due.says(0, "b takes one of both; over.");
        for (int taken = 0; taken < 2; taken++) {
            TwoPencils x = Due.game(ROW, "a/b", 1, 21);
            Due.at(x, 0, 7, 1, 0);
            Due.noMove(x, 0, 2);
            Due.noMove(x, 0, -1);
            Due.noMove(x, 0, 21);
            Due.play(x, 0, taken);
            Due.at(x, 0, OVER, -1, 2);
            Due.due("kept(0, 0)", x.kept(0, 0), taken == 0 ? 7 : 1);
            Due.due("kept(0, 1)", x.kept(0, 1), taken == 0 ? 8 : 14);
        }
    }

    static void brokenAtFirst() {
        Due.says(0, "If there is nothing that could be drawn, it is BROKEN there:");
        TwoPencils x = Due.lands(TORN, TWO_ALONE);
        Due.protocols(x, "a>b", "a", "a+b", "a/b");
        for (int p = 0; p < 4; p++) {
            Due.due("game(0, " + p + ")", x.game(0, p), p);
            Due.at(x, p, BROKEN, -1, 0);
            Due.noMove(x, p, 0);
            Due.due("undo(" + p + ")", x.undo(p), false);
        }
        int[] phases = {0, 2, BROKEN, 5};
        for (int p = 0; p < 4; p++) {
            Due.due("game(1, " + p + ")", x.game(1, p), 4 + p);
            Due.due("phase(" + (4 + p) + ")", x.phase(4 + p), phases[p]);
        }
    }

    static void brokenWithSeatsKept() {
        Due.says(0, "over, with the SEATS that were kept.");
        TwoPencils x = Due.game("5/2;0-1;1-2;2-3;3-4;4:1,0", "a>b,a+b", Due.cut(0, 0, 0, 0, 1), 0);
        Due.at(x, 0, BROKEN, -1, 1);
        Due.due("kept(0, 0)", x.kept(0, 0), 15);
        Due.due("value(0, 0)", x.value(0, 0), 0);
        Due.due("best(0, 0)", x.best(0, 0), -1);
        Due.due("count(3)", x.count(3), 1);
        Due.noMove(x, 0, 0);
        Due.due("undo(0)", x.undo(0), true);
        Due.at(x, 0, 1, 1, 0);
        Due.play(x, 0, 1);
        Due.at(x, 0, 3, 0, 1);
        TwoPencils y = Due.game(TWO_ALONE, "b>a,a+b", 1, 1);
        Due.at(y, 0, BROKEN, -1, 1);
        Due.due("the kept one is won by B", y.value(0, 0), -1);
        Due.due("kept(0, 0)", y.kept(0, 0), 2);
        TwoPencils z = Due.game("3/3;0:1,0;1:1,0;2:1,0", "b>a,a>b,a+b", 6, 2, Due.cut(0, 1, 0), 0);
        Due.at(z, 0, BROKEN, -1, 2);
        Due.due("two are kept", z.value(0, 1), 2);
    }

    static void closedParishesHaveDigit0() {
        Due.says(0, "(0 for PARISHES that are not cut).");
        TwoPencils x = Due.game(RING, "a>b", Due.cut(0, 0, 1, 1, 2, 2), 1);
        Due.noMove(x, 0, Due.cut(0, 0, 1, 0, 1, 1));
        Due.noMove(x, 0, Due.cut(0, 0, 0, 1, 1, 1));
        Due.noMove(x, 0, Due.cut(0, 0, 3, 3, 1, 1));
        Due.play(x, 0, Due.cut(0, 0, 0, 0, 1, 1), 0);
        Due.due("best(0, 0)", x.best(0, 0), 0);
    }

    static void movesAsNumbers() {
        Due.says(0, "MOVES as numbers: a CUT's;");
        TwoPencils x = Due.game(ROW, "a>b");
        for (int move = -3; move < 30; move++) {
            boolean lawful = move == 1 || move == 5 || move == 21;
            Due.due("move(0, " + move + ")", x.move(0, move), lawful);
            if (lawful) {
                x.undo(0);
            }
        }
        Due.noMove(x, 0, 256 + 5);
        Due.noMove(x, 0, 255);
        Due.noMove(x, 0, 256);
        for (int move : Due.FAR_OUT) {
            Due.due("move(0, " + move + ")", x.move(0, move), false);
        }
        for (String protocol : new String[] {"a", "a>b", "a/b"}) {
            TwoPencils y = Due.game(PAIR, protocol);
            Due.noMove(y, 0, 16);
            Due.noMove(y, 0, 32);
            Due.noMove(y, 0, -16);
            Due.play(y, 0, 0);
        }
    }

    static void halvesAsNumbers() {
        Due.says(0, "HALVES: likewise to the base 8 (numbered by their lowest PARISHES);");
        TwoPencils x = Due.game(ROW, "a+b");
        Due.noMove(x, 0, Due.halves(0, 1, 3, 2));
        Due.noMove(x, 0, Due.halves(1, 0, 2, 3));
        Due.noMove(x, 0, Due.halves(0, 1, 2, 4));
        Due.noMove(x, 0, Due.halves(1, 2, 3, 4));
        Due.noMove(x, 0, Due.cut(0, 1, 2, 3));
        Due.noMove(x, 0, 4096 + HALVES_OF_ROW);
        Due.noMove(x, 0, 4095);
        Due.noMove(x, 0, 4096);
        Due.noMove(x, 0, -1);
        for (int move : Due.FAR_OUT) {
            Due.due("move(0, " + move + ")", x.move(0, move), false);
        }
        Due.due("best(0, 0)", x.best(0, 0), HALVES_OF_ROW);
        Due.play(x, 0, HALVES_OF_ROW);
    }

    static void seatAsNumber() {
        Due.says(0, "which SEAT is kept (as numbered in the CUT drawn);");
        TwoPencils x = Due.game(FOUR, "a>b", 27);
        Due.noMove(x, 0, 4);
        Due.noMove(x, 0, -1);
        for (int move : Due.FAR_OUT) {
            Due.due("move(0, " + move + ")", x.move(0, move), false);
        }
        Due.play(x, 0, 3);
        Due.due("kept(0, 0)", x.kept(0, 0), Due.bits(3));
        Due.play(x, 0, Due.cut(0, 1, 2, 0));
        Due.noMove(x, 0, 3);
        Due.play(x, 0, 0);
        Due.due("kept(0, 1)", x.kept(0, 1), Due.bits(0));
        // 1 and 2 are left, that are numbered 0 and 1 now.
        Due.play(x, 0, Due.cut(0, 0, 1, 0));
        Due.noMove(x, 0, 2);
        Due.play(x, 0, 1);
        Due.due("kept(0, 2)", x.kept(0, 2), Due.bits(2));
        Due.play(x, 0, 0);
        Due.noMove(x, 0, 1);
        Due.play(x, 0, 0);
        Due.at(x, 0, OVER, -1, 4);
    }

    static void whichIsTaken() {
        Due.says(0, "0 or 1, which one is taken.");
        TwoPencils x = Due.game(ROW, "b/a", 5, 21);
        Due.at(x, 0, 7, 0, 0);
        Due.noMove(x, 0, 2);
        Due.noMove(x, 0, -1);
        for (int move : Due.FAR_OUT) {
            Due.due("move(0, " + move + ")", x.move(0, move), false);
        }
        Due.play(x, 0, 1);
        Due.due("kept(0, 0)", x.kept(0, 0), 1);
    }

    static void twoCutsAreTwoMoves() {
        Due.says(0, "Two CUTS are two MOVES.");
        TwoPencils x = Due.game(ROW, "a/b", 1, 5, 0);
        int[] phases = {7, 6, 5};
        for (int phase : phases) {
            Due.due("undo(0)", x.undo(0), true);
            Due.due("phase(0)", x.phase(0), phase);
        }
        Due.due("undo(0)", x.undo(0), false);
    }

    // ---- terms: goals and best moves ----

    static void goalBalance() {
        Due.says(0, "GOALS: 0: BALANCE of all SEATS kept: a would have it great, b small.");
        TwoPencils x = Due.lands(THREE, "4/4;0:1,0;1:1,0;2:1,0;3:1,0", "4/4;0:0,1;1:0,1;2:0,1;3:0,1", "4/4;0:0,0,1;1:0,0,1");
        Due.protocols(x, "a", "b");
        Due.due("a", x.sure(0, 0, 0), 1);
        Due.due("b", x.sure(0, 1, 0), 0);
        int[] most = {4, -4, 0};
        for (int l = 1; l < 4; l++) {
            Due.due("sure(" + l + ", 0, 0)", x.sure(l, 0, 0), most[l - 1]);
            Due.due("sure(" + l + ", 1, 0)", x.sure(l, 1, 0), most[l - 1]);
        }
        Due.due("a's cut", x.ended(0, 0), 6);
        Due.due("b's cut", x.ended(0, 1), 22);
    }

    static void goalSeatsOfA() {
        Due.says(0, "1: SEATS WON by A: likewise.");
        TwoPencils x = Due.lands(THREE, FOUR);
        Due.protocols(x, "a", "b");
        Due.due("a", x.sure(0, 0, 1), 2);
        Due.due("b", x.sure(0, 1, 1), 1);
        Due.due("game(0, 1)", x.game(0, 1), 0);
        Due.due("best(0, 1)", x.best(0, 1), 22);
        Due.due("one of four", x.sure(1, 0, 1), 1);
    }

    static void goalSeatsOfB() {
        Due.says(0, "2: SEATS WON by B: b would have it great, a small.");
        // 001: B, A; 011: B, B; so a draws 001 and b 011.
        TwoPencils x = Due.lands("3/2;0-1;1-2;0:0,2;1:0,2;2:1,0");
        Due.protocols(x, "a", "b");
        Due.due("a", x.sure(0, 0, 2), 1);
        Due.due("b", x.sure(0, 1, 2), 2);
        Due.due("game(0, 0)", x.game(0, 0), 0);
        Due.due("game(0, 1)", x.game(0, 1), 1);
        Due.due("best(0, 2)", x.best(0, 2), 1);
        Due.due("best(1, 2)", x.best(1, 2), 5);
    }

    static void bestOfBothPlaying() {
        Due.says(0, "BEST: each MOVE is one by which the GOAL, both playing so from there on, comes out best for who makes it;");
        TwoPencils x = Due.lands(THREE);
        Due.protocols(x, "a>b", "a>b,b>a", "b>a", "b>a,a>b");
        int[] value = {1, 0, 0, 1};
        int[] best = {6, 6, 22, 6};
        for (int p = 0; p < 4; p++) {
            Due.due("game(0, " + p + ")", x.game(0, p), p);
            Due.due("value(" + p + ", 0)", x.value(p, 0), value[p]);
            Due.due("best(" + p + ", 0)", x.best(p, 0), best[p]);
        }
        Due.play(x, 1, 6);
        Due.due("b keeps {3} and draws then", x.best(1, 0), 2);
        Due.play(x, 1, 2);
        Due.due("{0}, {1,2}", x.best(1, 0), Due.cut(0, 1, 1, 0));
        // By other moves than the best ones more comes of it.
        Due.play(x, 1, Due.cut(0, 0, 1, 0));
        Due.due("value(1, 0)", x.value(1, 0), 1);
        Due.play(x, 2, 26);
        Due.due("a keeps {1}, {0} would leave b to draw", x.best(2, 0), 1);
        Due.due("value(2, 0)", x.value(2, 0), 1);
    }

    static void bestOfSeveral() {
        Due.says(0, "of several that with the lowest number (of two CUTS: the first one lowest, then the second).");
        TwoPencils x = Due.lands(BARE_ROW, ROW);
        Due.protocols(x, "a>b", "b", "a+b", "a/b", "b/a");
        int[] best = {1, 1, HALVES_OF_ROW, 1, 1};
        for (int p = 0; p < 5; p++) {
            Due.due("game(0, " + p + ")", x.game(0, p), p);
            for (int goal = 0; goal < 3; goal++) {
                Due.due("best(" + p + ", " + goal + ")", x.best(p, goal), best[p]);
            }
        }
        Due.play(x, 0, 1);
        Due.due("of two seats", x.best(0, 0), 0);
        Due.play(x, 3, 1);
        Due.due("the second", x.best(3, 0), 5);
        Due.play(x, 3, 21);
        Due.due("which is taken", x.best(3, 0), 0);
        Due.due("game(1, 3)", x.game(1, 3), 5);
        Due.due("a: 5 and 21 are worth 2, 1 is not", x.best(5, 0), 5);
        Due.play(x, 5, 1);
        Due.due("all are worth 1 then", x.best(5, 0), 5);
        Due.due("game(1, 4)", x.game(1, 4), 6);
        Due.due("b: one of two is worth 2 at least", x.best(6, 0), 1);
        Due.play(x, 6, 1);
        Due.due("b: all alike", x.best(6, 0), 5);
    }

    static void halvesOfSeveral() {
        Due.says(0, "of several that with the lowest number");
        TwoPencils x = Due.lands(RING_OF_FIVE, RING_OF_FIVE + ";2:1,0;3:0,1;4:1,0");
        Due.protocols(x, "a+b", "b+a");
        Due.due("game(0, 0)", x.game(0, 0), 0);
        Due.due("best(0, 0)", x.best(0, 0), Due.halves(0, 0, 1, 2, 3));
        Due.play(x, 0, Due.halves(0, 0, 1, 2, 3));
        Due.due("00011 comes before 00110", x.best(0, 0), Due.cut(0, 0, 0, 1, 1));
        // 00011: A wins 012, nobody 34; 00110: A wins 014, nobody 23. Both are as good.
        Due.due("game(1, 0)", x.game(1, 0), 1);
        Due.play(x, 1, Due.halves(0, 0, 1, 2, 3));
        Due.due("best(1, 0)", x.best(1, 0), Due.cut(0, 0, 0, 1, 1));
        Due.due("value(1, 0)", x.value(1, 0), 1);
    }

    /**
     * A ring of five: halves with a pair of neighbours can be joined to two cuts, one with a third
     * before the pair, one with a third behind it. T are the three.
     */
    static void bestHalvesAndJoining() {
        Due.says(0, "BEST: each MOVE is one by which the GOAL, both playing so from there on, comes out best for who makes it;");
        // Balance if T is 012: 1, 123: 1, 234: 0, 340: 1, 401: 0.
        TwoPencils x = Due.lands(RING_OF_FIVE + ";0:1,0;1:0,2;2:2,0", RING_OF_FIVE + ";0:0,1;1:2,0;2:0,2");
        Due.protocols(x, "a+b", "b+a");
        int pair12 = Due.halves(0, 1, 1, 2, 3);
        int lowest = Due.halves(0, 0, 1, 2, 3);
        int[][] value = {{1, 1}, {-1, -1}};
        int[][] best = {{pair12, lowest}, {lowest, pair12}};
        for (int l = 0; l < 2; l++) {
            for (int p = 0; p < 2; p++) {
                int g = x.game(l, p);
                Due.due("value of halves", x.value(g, 0), value[l][p]);
                Due.due("sure(" + l + ", " + p + ", 0)", x.sure(l, p, 0), value[l][p]);
                Due.due("best halves", x.best(g, 0), best[l][p]);
                Due.due("ended(" + l + ", " + p + ")", x.ended(l, p), Due.cut(0, 0, 0, 1, 1));
            }
        }
        // The pair 01 lets b take 401, that is worth 0, and a take 012, that is worth 1; the other way round for B.
        int[][] joined = {{Due.cut(0, 0, 1, 1, 0), Due.cut(0, 0, 0, 1, 1)}, {Due.cut(0, 0, 0, 1, 1), Due.cut(0, 0, 1, 1, 0)}};
        int[][] worth = {{0, 1}, {-1, 0}};
        for (int g = 0; g < 4; g++) {
            Due.play(x, g, lowest);
            Due.due("best joining", x.best(g, 0), joined[g / 2][g % 2]);
            Due.due("value of joining", x.value(g, 0), worth[g / 2][g % 2]);
        }
        // Seats of A in 012: 1, in 401: 1 as {2,3} is A's. Seats of B in 012: 0, in 401: 1.
        Due.due("by goal 1 both are alike", x.best(0, 1), Due.cut(0, 0, 0, 1, 1));
        Due.due("by goal 1", x.value(0, 1), 1);
        Due.due("by goal 2 b takes 401", x.best(0, 2), Due.cut(0, 0, 1, 1, 0));
        Due.due("by goal 2", x.value(0, 2), 1);
        Due.due("by goal 2 a takes 012", x.best(1, 2), Due.cut(0, 0, 0, 1, 1));
        Due.due("by goal 2", x.value(1, 2), 0);
    }

    /** Two ways to join six parishes in a ring: 03|14|25 and 04|12|35; the second one has the lower number. */
    static void bestJoiningOfSeveral() {
        Due.says(0, "of several that with the lowest number");
        String ring = "6/3;0-3;3-5;5-2;2-1;1-4;4-0";
        int halves = Due.halves(0, 1, 2, 3, 4, 5);
        int one = Due.cut(0, 1, 2, 0, 1, 2);
        int other = Due.cut(0, 1, 1, 2, 0, 2);
        // In the second land the one is worth 1, the other -1, in the third the other way round.
        String[] lands = {ring, ring + ";0:0,1;1:0,1;3:2,0;5:1,0", ring + ";0:1,0;1:1,0;3:0,2;5:0,1"};
        int[][] best = {{other, other}, {one, other}, {other, one}};
        TwoPencils x = Due.lands(lands);
        Due.protocols(x, "b+a", "a+b");
        for (int l = 0; l < 3; l++) {
            for (int p = 0; p < 2; p++) {
                int g = x.game(l, p);
                Due.play(x, g, halves);
                Due.due("best joining in " + l + " by " + p, x.best(g, 0), best[l][p]);
            }
        }
    }

    static void bestOfTwoCutsRising() {
        Due.says(0, "BEST: each MOVE is one by which the GOAL, both playing so from there on, comes out best for who makes it;");
        // What cuts 1, 5, 21, 85 of a line of five are worth; in the second land A and B are in each other's place.
        String line = "5/2;0-1;1-2;2-3;3-4";
        TwoPencils x = Due.lands(line + ";1:3,2;2:2,1;3:1,0;4:2,3", line + ";1:2,3;2:1,2;3:0,1;4:3,2", line);
        int[] cuts = {1, 5, 21, 85};
        int[][] worth = {{0, 1, 2, 1}, {0, -1, -2, -1}, {0, 0, 0, 0}};
        Due.protocols(x, "a/b", "b/a");
        for (int l = 0; l < 3; l++) {
            for (int p = 0; p < 2; p++) {
                twoCutsAreBest(x, l, p, worth[l], cuts);
            }
        }
    }

    /** Of all pairs of cuts, what the drawer likes best if the other one takes what he likes best. */
    private static void twoCutsAreBest(TwoPencils x, int land, int drawer, int[] worth, int[] cuts) {
        int sign = drawer == 0 ? 1 : -1;
        int best = -100;
        int first = 0;
        int second = 0;
        for (int i = 0; i < 4; i++) {
            for (int j = i + 1; j < 4; j++) {
                int comes = Math.min(sign * worth[i], sign * worth[j]);
                if (comes > best) {
                    best = comes;
                    first = i;
                    second = j;
                }
            }
        }
        int g = x.game(land, drawer);
        Due.due("value of two cuts", x.value(g, 0), sign * best);
        Due.due("first of two cuts", x.best(g, 0), cuts[first]);
        Due.play(x, g, cuts[first]);
        Due.due("value of the second", x.value(g, 0), sign * best);
        Due.due("second of two cuts", x.best(g, 0), cuts[second]);
        Due.play(x, g, cuts[second]);
        Due.due("which is taken", x.best(g, 0), sign * worth[second] < sign * worth[first] ? 1 : 0);
        Due.due("value of it", x.value(g, 0), sign * best);
    }

    static void valueOfButOneCut() {
        Due.says(0, "(if there is but one, that is drawn alone, and taken);");
        TwoPencils x = Due.lands("2/1;0-1;0:1,0", "2/1;0-1;0:0,1");
        Due.protocols(x, "a/b", "b/a");
        for (int l = 0; l < 2; l++) {
            for (int p = 0; p < 2; p++) {
                Due.due("sure(" + l + ", " + p + ", 0)", x.sure(l, p, 0), l == 0 ? 1 : -1);
                Due.due("ended(" + l + ", " + p + ")", x.ended(l, p), 0);
            }
        }
    }

    static void valueOfTwoCutsWithASeatKept() {
        Due.says(0, "VALUE: what comes of it, with SEATS kept so far.");
        // {0} is kept for A; of 1, 2, 3 the cuts are {1,2},{3}: nobody, B, and {1},{2,3}: B, A.
        TwoPencils x = Due.game(THREE, "a>b,b/a", 22, 0);
        int[] moves = {Due.cut(0, 0, 0, 1), Due.cut(0, 0, 1, 1), 1};
        int[] ofB = {1, 1, 1, 1};
        int[] ofA = {2, 2, 2, 2};
        for (int i = 0; i <= 3; i++) {
            Due.due("value(0, 0) behind " + i, x.value(0, 0), 1);
            Due.due("value(0, 1) behind " + i, x.value(0, 1), ofA[i]);
            Due.due("value(0, 2) behind " + i, x.value(0, 2), ofB[i]);
            if (i < 3) {
                Due.play(x, 0, moves[i]);
            }
        }
        x.undo(0);
        Due.play(x, 0, 0);
        Due.due("the other one is taken", x.value(0, 0), 0);
        TwoPencils y = Due.game("4/2;0-1;1-2;2-3;0:1,0", "a>b,b+a", 1, 1, Due.halves(0, 1, 1, 0));
        Due.due("{3} is kept", y.kept(0, 0), 8);
        Due.due("value(0, 0), joined then", y.value(0, 0), 1);
    }

    static void valueWithSeatsKept() {
        Due.says(0, "VALUE: what comes of it, with SEATS kept so far.");
        TwoPencils x = Due.game(THREE, "a>b", 6);
        int[] kept = {1, 1, -1};
        int[] ofA = {1, 1, 0};
        for (int s = 0; s < 3; s++) {
            Due.play(x, 0, s);
            Due.due("value(0, 0)", x.value(0, 0), 1);
            Due.due("value(0, 1)", x.value(0, 1), 2);
            Due.due("value(0, 2)", x.value(0, 2), 1);
            x.undo(0);
            TwoPencils y = Due.game(THREE, "a>b,a+b", 6, s);
            // {0,1} can be halved for one seat only, what is left is for two: broken.
            Due.at(y, 0, BROKEN, -1, 1);
            Due.due("value(0, 0) of what was kept", y.value(0, 0), kept[s]);
            Due.due("value(0, 1) of what was kept", y.value(0, 1), ofA[s]);
            Due.due("value(0, 2) of what was kept", y.value(0, 2), 1 - ofA[s]);
        }
        TwoPencils z = Due.game(THREE, "b", 26);
        Due.due("over: value(0, 0)", z.value(0, 0), 1);
        Due.due("over: value(0, 1)", z.value(0, 1), 2);
        Due.due("over: value(0, 2)", z.value(0, 2), 1);
    }

    // ---- terms: what comes of protocols ----

    static void endedByBestMoves() {
        Due.says(0, "ENDED: the CUT of a LAND that comes of a PROTOCOL by BEST MOVES by GOAL 0");
        TwoPencils x = Due.lands(THREE, ROW, FOUR, PAIR);
        Due.protocols(x, "a>b", "a>b,b>a", "a", "b", "b/a", "a+b");
        int[][] ended = {{6, 22, 6, 22, 6, -1}, {5, 5, 5, 1, 5, 5}, {27, 27, 27, 27, 27, -1}, {0, 0, 0, 0, 0, 0}};
        for (int l = 0; l < 4; l++) {
            for (int p = 0; p < 6; p++) {
                Due.due("ended(" + l + ", " + p + ")", x.ended(l, p), ended[l][p]);
            }
        }
        Due.due("no game was made", x.count(2), 0);
    }

    static void endedByGoal0() {
        Due.says(0, "by BEST MOVES by GOAL 0");
        // 001: A and B, 011: A and nobody; in the second land 001: nobody and A, 011: B and A. Seats of A are alike.
        TwoPencils x = Due.lands("3/2;0-1;1-2;0:5,0;1:1,0;2:0,1", "3/2;0-1;1-2;0:0,1;1:1,0;2:5,0");
        Due.protocols(x, "a", "b");
        Due.due("by seats of A", x.sure(0, 0, 1) + x.sure(1, 1, 1), 2);
        Due.due("001: 0, 011: 1", x.ended(0, 0), 5);
        Due.due("001: 0, 011: 1", x.ended(0, 1), 1);
        Due.due("001: 1, 011: 0", x.ended(1, 0), 1);
        Due.due("001: 1, 011: 0", x.ended(1, 1), 5);
    }

    static void endedNotIfBroken() {
        Due.says(0, "(there is none, if it is BROKEN).");
        TwoPencils x = Due.lands(TWO_ALONE, TORN);
        Due.protocols(x, "a>b,a+b", "a+b", "a>b");
        int[] ended = {-1, -1, 1};
        for (int p = 0; p < 3; p++) {
            Due.due("ended(0, " + p + ")", x.ended(0, p), ended[p]);
            Due.due("ended(1, " + p + ")", x.ended(1, p), -1);
        }
        Due.due("it comes to what was kept", x.sure(0, 0, 0), -1);
    }

    static void firstOfChangedPlaces() {
        Due.says(0, "FIRST: VALUE by GOAL 0 less that of the PROTOCOL with a and b in each other's place.");
        TwoPencils x = Due.lands(THREE, TWO_ALONE, ROW, TORN);
        Due.protocols(x, "a>b", "a>b,b>a", "b>a", "b>a,a>b", "a", "b");
        int[] first = {1, -1, -1, 1, 1, -1};
        for (int p = 0; p < 6; p++) {
            Due.due("first(0, " + p + ")", x.first(0, p), first[p]);
            Due.due("broken both ways", x.first(3, p), 0);
        }
        Due.protocols(x, "a>b,a+b", "b>a,b+a");
        Due.due("a keeps 0, b keeps 1", x.first(1, 6), -2);
        Due.due("a keeps 0, b keeps 1", x.first(1, 7), 2);
        Due.due("a draws 5, b 1", x.first(2, 4), 1);
    }

    static void worstIsFarthest() {
        Due.says(0, "WORST of a PROTOCOL: of LANDS that have ENDED the one whose CUT is FARTHEST for A (of several the lowest).");
        TwoPencils x = Due.lands(TORN, ROW);
        Due.protocols(x, "a", "b");
        // 9/23 by a, 5/46 by b.
        Due.due("the only one", x.worst(0), 1);
        Due.feed(x, "2/2;0:1,0");
        Due.due("land()", x.land(), 2);
        Due.due("1/2", x.worst(0), 2);
        Due.feed(x, "2/2;1:7,0");
        Due.due("land()", x.land(), 3);
        Due.due("1/2 again", x.worst(0), 2);
        Due.feed(x, "4/4;0:9,0");
        Due.due("land()", x.land(), 4);
        Due.due("3/4", x.worst(1), 4);
        Due.feed(x, "4/4;3:9,0");
        Due.due("land()", x.land(), 5);
        Due.due("3/4 again", x.worst(1), 4);
        x.vote(4, 1, 0, 9);
        Due.due("2/4 and 3/4", x.worst(0), 5);
        x.vote(5, 3, 0, 0);
        Due.due("1/2 thrice", x.worst(0), 2);
    }

    static void worstForA() {
        Due.says(0, "the one whose CUT is FARTHEST for A");
        TwoPencils x = Due.lands("2/2", "2/2;0:0,1", "2/2;0:0,0,1", "3/3;0:1,0;1:1,0");
        Due.protocols(x, "a");
        Due.due("0, 0, 0, 1/3: those of B and C do not count", x.worst(0), 3);
        x.vote(3, 2, 0, 1);
        Due.due("none is far", x.worst(0), 0);
    }

    static void worseIfFarther() {
        Due.says(0, "WORSE is a PROTOCOL than another one in a LAND, if both have ENDED there and the first one's is FARTHER for A.");
        TwoPencils x = Due.lands(ROW, TWO_ALONE, BARE_ROW, "2/2;0:1,0", ROW, ROW);
        Due.protocols(x, "a", "b", "a+b", "b>a");
        Due.due("a is farther in each row", x.worse(0, 1), Due.bits(0, 4, 5));
        Due.due("b is nowhere", x.worse(1, 0), 0);
        Due.due("none than itself", x.worse(0, 0), 0);
        Due.due("a+b has not ended in two alone", x.worse(2, 0), 0);
        Due.due("nor is a farther there", x.worse(0, 2), 0);
        Due.due("a+b can but draw 5", x.worse(2, 1), Due.bits(0, 4, 5));
    }

    // ---- promises 21 to 33 ----

    static void gameNumbers() {
        Due.says(21, "A GAME: its number.");
        TwoPencils x = Due.lands(PAIR, TORN, ROW);
        Due.protocols(x, "a", "b>a");
        for (int g = 0; g < 8; g++) {
            Due.due("game", x.game(g % 3, g % 2), g);
            Due.due("count(2)", x.count(2), g + 1);
        }
        Due.play(x, 0, 0);
        Due.at(x, 0, OVER, -1, 1);
        Due.at(x, 6, 2, 0, 0);
        Due.at(x, 3, 0, 1, 0);
        Due.at(x, 7, BROKEN, -1, 0);
    }

    static void gameNoSuch() {
        Due.says(21, "NONE: no such ones,");
        TwoPencils x = Due.lands(PAIR);
        Due.protocols(x, "a");
        Due.due("land -1", x.game(-1, 0), -1);
        Due.due("land 1", x.game(1, 0), -1);
        Due.due("protocol -1", x.game(0, -1), -1);
        Due.due("protocol 1", x.game(0, 1), -1);
        for (int n : Due.FAR_OUT) {
            Due.due("land " + n, x.game(n, 0), -1);
            Due.due("protocol " + n, x.game(0, n), -1);
        }
        Due.due("count(2)", x.count(2), 0);
        Due.due("votes may still change", x.vote(0, 0, 0, 2), true);
        Due.due("game(0, 0)", x.game(0, 0), 0);
    }

    static void gamesAreEight() {
        Due.says(21, "there are eight.");
        TwoPencils x = Due.lands(PAIR, PAIR);
        Due.protocols(x, "a");
        for (int g = 0; g < 8; g++) {
            Due.due("game(0, 0)", x.game(0, 0), g);
        }
        Due.play(x, 7, 0);
        String before = Due.picture(x);
        Due.due("a ninth", x.game(0, 0), -1);
        Due.due("a ninth, of another land", x.game(1, 0), -1);
        Due.same(before, x);
        Due.due("that land has no game", x.vote(1, 0, 0, 5), true);
        Due.due("phase(8)", x.phase(8), -1);
    }

    static void phases() {
        Due.says(22, "Where a GAME is: 0 a CUT is to be drawn (a>b), 1 a SEAT is to be kept, 2 a CUT (a), 3 HALVES, 4 they are to be joined, 5 the first of two CUTS, 6 the second, 7 one is to be taken, 8 over, 9 BROKEN.");
        phases("a>b", new int[] {1, 0, 0, 0}, new int[] {0, 1, 0, 1, OVER});
        phases("a", new int[] {1}, new int[] {2, OVER});
        phases("a+b", new int[] {HALVES_OF_ROW, 5}, new int[] {3, 4, OVER});
        phases("a/b", new int[] {1, 5, 0}, new int[] {5, 6, 7, OVER});
        phases("a>b,b+a", new int[] {1, 0}, new int[] {0, 1, BROKEN});
    }

    private static void phases(String protocol, int[] moves, int[] phases) {
        TwoPencils x = Due.game(ROW, protocol);
        Due.due("phase(0) by " + protocol, x.phase(0), phases[0]);
        for (int i = 0; i < moves.length; i++) {
            Due.play(x, 0, moves[i]);
            Due.due("phase(0) by " + protocol, x.phase(0), phases[i + 1]);
        }
        for (int i = moves.length; i > 0; i--) {
            Due.due("undo(0) by " + protocol, x.undo(0), true);
            Due.due("phase(0) by " + protocol, x.phase(0), phases[i - 1]);
        }
    }

    static void phaseNoSuch() {
        Due.says(22, "NONE: no such one.");
        TwoPencils x = Due.game(PAIR, "a");
        Due.due("phase(-1)", x.phase(-1), -1);
        Due.due("phase(1)", x.phase(1), -1);
        for (int n : Due.FAR_OUT) {
            Due.due("phase(" + n + ")", x.phase(n), -1);
        }
    }

    static void turns() {
        Due.says(23, "Whose MOVE it is (0 a, 1 b).");
        turns(">", new int[] {1, 0, 0, 0}, new int[] {0, 1, 0, 1});
        turns("", new int[] {1}, new int[] {0});
        turns("+", new int[] {HALVES_OF_ROW, 5}, new int[] {0, 1});
        turns("/", new int[] {1, 5, 0}, new int[] {0, 0, 1});
    }

    /** By a protocol of one round; turns as they are if a draws. */
    private static void turns(String sign, int[] moves, int[] turns) {
        for (int drawer = 0; drawer < 2; drawer++) {
            String one = drawer == 0 ? "a" : "b";
            String other = sign.isEmpty() ? "" : drawer == 0 ? "b" : "a";
            TwoPencils x = Due.game(ROW, one + sign + other);
            for (int i = 0; i < moves.length; i++) {
                Due.due("turn(0) by " + one + sign + other, x.turn(0), turns[i] ^ drawer);
                Due.play(x, 0, moves[i]);
            }
            Due.due("turn(0) when it is over", x.turn(0), -1);
        }
    }

    static void turnNobodys() {
        Due.says(23, "NONE: nobody's,");
        TwoPencils x = Due.game(PAIR, "b", 0);
        Due.due("over", x.turn(0), -1);
        x.undo(0);
        Due.due("not over", x.turn(0), 1);
        Due.due("broken", Due.game(TORN, "b").turn(0), -1);
        Due.due("broken later", Due.game(TWO_ALONE, "b>a,b+a", 1, 0).turn(0), -1);
    }

    static void turnNoSuch() {
        Due.says(23, "no such one.");
        TwoPencils x = Due.game(PAIR, "a");
        Due.due("turn(-1)", x.turn(-1), -1);
        Due.due("turn(1)", x.turn(1), -1);
        for (int n : Due.FAR_OUT) {
            Due.due("turn(" + n + ")", x.turn(n), -1);
        }
    }

    static void moves() {
        Due.says(24, "A MOVE.");
        TwoPencils x = Due.lands(ROW);
        Due.protocols(x, "a", "a>b");
        for (int g = 0; g < 8; g++) {
            Due.due("game", x.game(0, g % 2), g);
        }
        Due.play(x, 7, 21, 1);
        for (int g = 0; g < 7; g++) {
            Due.at(x, g, g % 2 == 0 ? 2 : 0, 0, 0);
        }
        Due.at(x, 7, 0, 0, 1);
        Due.play(x, 0, 5);
        Due.at(x, 0, OVER, -1, 2);
        Due.at(x, 7, 0, 0, 1);
    }

    static void moveNoSuchGame() {
        Due.says(24, "False: no such one,");
        TwoPencils x = Due.game(PAIR, "a");
        String before = Due.picture(x);
        Due.due("move(-1, 0)", x.move(-1, 0), false);
        Due.due("move(1, 0)", x.move(1, 0), false);
        for (int n : Due.FAR_OUT) {
            Due.due("move(" + n + ", 0)", x.move(n, 0), false);
        }
        Due.same(before, x);
    }

    static void moveWhenOver() {
        Due.says(24, "over,");
        TwoPencils x = Due.game(PAIR, "a", 0);
        Due.noMove(x, 0, 0);
        Due.noMove(x, 0, 1);
        TwoPencils y = Due.game(TORN, "a");
        Due.noMove(y, 0, 0);
        TwoPencils z = Due.game(TWO_ALONE, "b>a,b+a", 1, 0);
        Due.noMove(z, 0, 0);
        Due.noMove(z, 0, 1);
        for (int n : Due.FAR_OUT) {
            Due.due("move(0, " + n + ")", x.move(0, n), false);
        }
    }

    static void moveThatMayNotBeMade() {
        Due.says(24, "it is none that may be made.");
        TwoPencils x = Due.game(ROW + ";1=2", "a>b");
        Due.noMove(x, 0, 5);
        Due.noMove(x, 0, 0);
        Due.noMove(x, 0, -1);
        Due.play(x, 0, 21);
        Due.noMove(x, 0, 21);
        Due.noMove(x, 0, 2);
        Due.play(x, 0, 1);
        Due.noMove(x, 0, 1);
        Due.play(x, 0, 0);
        Due.noMove(x, 0, 1);
        Due.play(x, 0, 0);
        Due.at(x, 0, OVER, -1, 2);
    }

    static void moveOfTheSecondCut() {
        Due.says(24, "(Of two CUTS the second has the greater number.)");
        TwoPencils x = Due.game(ROW, "b/a", 1);
        Due.noMove(x, 0, 1);
        Due.noMove(x, 0, 0);
        Due.play(x, 0, 5);
        x.undo(0);
        Due.play(x, 0, 21);
        x.undo(0);
        x.undo(0);
        Due.noMove(x, 0, 21);
        Due.play(x, 0, 5);
        Due.noMove(x, 0, 1);
        Due.noMove(x, 0, 5);
        Due.play(x, 0, 21);
    }

    static void undoOfTheLatest() {
        Due.says(25, "The latest MOVE was not made.");
        TwoPencils x = Due.game(THREE, "a>b,b/a");
        int[] moves = {6, 2, Due.cut(0, 0, 1, 0), Due.cut(0, 1, 1, 0), 1};
        String[] pictures = new String[6];
        for (int i = 0; i < 5; i++) {
            pictures[i] = Due.picture(x);
            Due.play(x, 0, moves[i]);
        }
        Due.at(x, 0, OVER, -1, 3);
        for (int i = 4; i >= 0; i--) {
            Due.due("undo(0)", x.undo(0), true);
            Due.same(pictures[i], x);
        }
        // Another way from there, and back again.
        Due.play(x, 0, 22, 1);
        Due.due("kept(0, 0)", x.kept(0, 0), Due.bits(1, 2));
        Due.due("undo(0)", x.undo(0), true);
        Due.play(x, 0, 0);
        Due.due("kept(0, 0)", x.kept(0, 0), Due.bits(0));
        x.undo(0);
        x.undo(0);
        Due.same(pictures[0], x);
    }

    static void undoNoSuchOrNone() {
        Due.says(25, "False: no such one, none was.");
        TwoPencils x = Due.game(PAIR, "a");
        Due.due("undo(0)", x.undo(0), false);
        Due.due("undo(-1)", x.undo(-1), false);
        Due.due("undo(1)", x.undo(1), false);
        for (int n : Due.FAR_OUT) {
            Due.due("undo(" + n + ")", x.undo(n), false);
        }
        x.move(0, 3);
        Due.due("a refused move is none", x.undo(0), false);
        Due.play(x, 0, 0);
        Due.due("undo(1)", x.undo(1), false);
        Due.at(x, 0, OVER, -1, 1);
        Due.due("undo(0)", x.undo(0), true);
        Due.due("undo(0)", x.undo(0), false);
        Due.at(x, 0, 2, 0, 0);
        Due.due("broken from the first", Due.game(TORN, "a").undo(0), false);
    }

    static void best() {
        Due.says(26, "The BEST MOVE by a GOAL.");
        TwoPencils x = Due.lands("3/2;0-1;1-2;0:9,0;1:0,5;2:1,0");
        // 001: A and A; 011: A and B.
        Due.protocols(x, "a", "b", "a/b");
        int[] best = {1, 5, 1};
        for (int p = 0; p < 3; p++) {
            Due.due("game(0, " + p + ")", x.game(0, p), p);
            for (int goal = 0; goal < 3; goal++) {
                Due.due("best(" + p + ", " + goal + ")", x.best(p, goal), best[p]);
            }
        }
        Due.play(x, 2, 1);
        Due.due("the second", x.best(2, 2), 5);
        Due.play(x, 2, 5);
        for (int goal = 0; goal < 3; goal++) {
            Due.due("b takes 011", x.best(2, goal), 1);
        }
        Due.due("it is not made", x.phase(2), 7);
    }

    static void bestWhenOver() {
        Due.says(26, "NONE: over,");
        for (int goal = 0; goal < 3; goal++) {
            Due.due("over", Due.game(PAIR, "a", 0).best(0, goal), -1);
            Due.due("broken", Due.game(TORN, "a").best(0, goal), -1);
            Due.due("broken later", Due.game(TWO_ALONE, "a>b,b+a", 1, 0).best(0, goal), -1);
        }
    }

    static void bestNoSuch() {
        Due.says(26, "no such ones.");
        TwoPencils x = Due.game(PAIR, "a");
        Due.due("goal -1", x.best(0, -1), -1);
        Due.due("goal 3", x.best(0, 3), -1);
        Due.due("game -1", x.best(-1, 0), -1);
        Due.due("game 1", x.best(1, 0), -1);
        for (int n : Due.FAR_OUT) {
            Due.due("goal " + n, x.best(0, n), -1);
            Due.due("game " + n, x.best(n, 0), -1);
        }
    }

    static void value() {
        Due.says(27, "VALUE by a GOAL.");
        TwoPencils x = Due.game(FOUR + ";3:1,0", "a>b");
        int[] moves = {27, 3, Due.cut(0, 1, 2, 0), 0, Due.cut(0, 0, 1, 0), 1, 0, 0};
        int[] value = {1, 2, 1};
        for (int i = 0; i <= 8; i++) {
            for (int goal = 0; goal < 3; goal++) {
                Due.due("value(0, " + goal + ") behind " + i, x.value(0, goal), value[goal]);
            }
            if (i < 8) {
                Due.play(x, 0, moves[i]);
            }
        }
    }

    static void valueNoSuch() {
        Due.says(27, "HIDDEN: no such ones.");
        for (TwoPencils x : new TwoPencils[] {Due.game(PAIR, "a"), Due.game(PAIR, "a", 0), Due.game(TORN, "a")}) {
            Due.due("goal -1", x.value(0, -1), -100);
            Due.due("goal 3", x.value(0, 3), -100);
            Due.due("game -1", x.value(-1, 0), -100);
            Due.due("game 1", x.value(1, 0), -100);
            for (int n : Due.FAR_OUT) {
                Due.due("goal " + n, x.value(0, n), -100);
                Due.due("game " + n, x.value(n, 0), -100);
            }
        }
        Due.due("broken has one", Due.game(TORN, "a").value(0, 0), 0);
    }

    static void kept() {
        Due.says(28, "SEATS kept: how many (i NONE), the PARISHES of the i-th, as bits (a CUT kept at once by its numbers).");
        TwoPencils x = Due.game(FOUR, "a>b,b", 27, 2);
        Due.due("kept(0, NONE)", x.kept(0, -1), 1);
        Due.due("kept(0, 0)", x.kept(0, 0), Due.bits(2));
        Due.play(x, 0, Due.cut(0, 1, 0, 2));
        int[] seats = {2, 0, 1, 3};
        Due.due("kept(0, NONE)", x.kept(0, -1), 4);
        for (int i = 0; i < 4; i++) {
            Due.due("kept(0, " + i + ")", x.kept(0, i), Due.bits(seats[i]));
        }
        TwoPencils y = Due.game("9/1;0-1;1-2;2-3;3-4;4-5;5-6;6-7;7-8", "a", 0);
        Due.due("all nine", y.kept(0, 0), 511);
    }

    static void keptWithout() {
        Due.says(28, "NONE: without, no such one.");
        TwoPencils x = Due.game(FOUR, "a");
        Due.due("kept(0, NONE)", x.kept(0, -1), 0);
        Due.due("kept(0, 0)", x.kept(0, 0), -1);
        Due.play(x, 0, 27);
        Due.due("kept(0, 3)", x.kept(0, 3), Due.bits(3));
        Due.due("kept(0, 4)", x.kept(0, 4), -1);
        Due.due("kept(0, -2)", x.kept(0, -2), -1);
        Due.due("game 1", x.kept(1, 0), -1);
        Due.due("game 1", x.kept(1, -1), -1);
        Due.due("game -1", x.kept(-1, -1), -1);
        for (int n : Due.FAR_OUT) {
            Due.due("kept(0, " + n + ")", x.kept(0, n), -1);
            Due.due("kept(" + n + ", NONE)", x.kept(n, -1), -1);
        }
        x.undo(0);
        Due.due("kept(0, 0)", x.kept(0, 0), -1);
    }

    static void sure() {
        Due.says(29, "VALUE of a PROTOCOL for a LAND from the beginning.");
        TwoPencils x = Due.lands(THREE, TWO_ALONE, TORN);
        Due.protocols(x, "a>b", "a>b,b>a", "a>b,a+b");
        int[][] sure = {{1, 0, 0}, {0, 0, -1}, {0, 0, 0}};
        for (int l = 0; l < 3; l++) {
            for (int p = l == 0 ? 0 : 2; p < (l == 0 ? 2 : 3); p++) {
                Due.due("sure(" + l + ", " + p + ", 0)", x.sure(l, p, 0), sure[l][p]);
            }
        }
        Due.due("b keeps 1", x.sure(1, 2, 1), 0);
        Due.due("b keeps 1", x.sure(1, 2, 2), 1);
        // Whatever is played, it is told from the beginning.
        Due.due("game(0, 1)", x.game(0, 1), 0);
        Due.play(x, 0, 26, 1, Due.cut(0, 0, 1, 1));
        Due.due("value(0, 0)", x.value(0, 0), 1);
        Due.due("sure(0, 1, 0)", x.sure(0, 1, 0), 0);
    }

    /** All that is told of protocols in one land is told anew when votes change there, and of all other lands it stays. */
    static void votesChangeWhatComes() {
        Due.says(9, "VOTES of a party (0 .. 2) in a PARISH from now on.");
        String land = "3/2;0-1;1-2;0:9,0;1:0,5;2:1,0";
        for (int changed = 0; changed < 6; changed++) {
            TwoPencils x = Due.lands(land, land, land, land, land, land);
            Due.protocols(x, "a", "b", "a", "b", "a", "b", "a", "b");
            comesOf(x, -1);
            int[][] votes = {{0, 9}, {5, 0}, {0, 1}};
            for (int p = 0; p < 3; p++) {
                x.vote(changed, p, 0, votes[p][0]);
                x.vote(changed, p, 1, votes[p][1]);
            }
            comesOf(x, changed);
        }
    }

    /** In changed A and B are in each other's place: 001 is worth -2 there, 2 elsewhere, 011 nothing. */
    private static void comesOf(TwoPencils x, int changed) {
        for (int l = 0; l < 6; l++) {
            int sign = l == changed ? -1 : 1;
            for (int p = 0; p < 8; p += l % 2 == 0 ? 7 : 3) {
                boolean great = (p % 2 == 0) == (sign == 1);
                String at = "(" + l + ", " + p + ") with " + changed + " changed";
                Due.due("sure" + at, x.sure(l, p, 0), great ? 2 * sign : 0);
                Due.due("sure of A" + at, x.sure(l, p, 1), sign == 1 ? great ? 2 : 1 : great ? 0 : 1);
                Due.due("sure of B" + at, x.sure(l, p, 2), sign == 1 ? great ? 0 : 1 : great ? 2 : 1);
                Due.due("first" + at, x.first(l, p), p % 2 == 0 ? 2 : -2);
                Due.due("ended" + at, x.ended(l, p), great ? 1 : 5);
            }
        }
    }

    static void sureNoSuch() {
        Due.says(29, "HIDDEN: no such ones.");
        TwoPencils x = Due.lands(PAIR);
        Due.protocols(x, "a");
        Due.due("sure(0, 0, 2)", x.sure(0, 0, 2), 0);
        Due.due("goal -1", x.sure(0, 0, -1), -100);
        Due.due("goal 3", x.sure(0, 0, 3), -100);
        Due.due("goal 4", x.sure(0, 0, 4), -100);
        Due.due("protocol -1", x.sure(0, -1, 0), -100);
        Due.due("protocol 1", x.sure(0, 1, 0), -100);
        Due.due("land -1", x.sure(-1, 0, 0), -100);
        Due.due("land 1", x.sure(1, 0, 0), -100);
        for (int n : Due.FAR_OUT) {
            Due.due("goal " + n, x.sure(0, 0, n), -100);
            Due.due("protocol " + n, x.sure(0, n, 0), -100);
            Due.due("land " + n, x.sure(n, 0, 0), -100);
        }
    }

    static void ended() {
        Due.says(30, "ENDED.");
        TwoPencils x = Due.lands("3/2;0-1;1-2;0:9,0;1:0,5;2:1,0");
        Due.protocols(x, "a", "b");
        Due.due("by a", x.ended(0, 0), 1);
        Due.due("by b", x.ended(0, 1), 5);
        x.vote(0, 1, 1, 0);
        Due.due("by b, with other votes", x.ended(0, 1), 1);
    }

    static void endedThereIsNone() {
        Due.says(30, "NONE: there is none,");
        TwoPencils x = Due.lands(TORN, TWO_ALONE);
        Due.protocols(x, "a>b", "a", "a+b", "a/b", "b>a,b+a");
        int[] ofTwo = {1, 1, -1, 1, -1};
        for (int p = 0; p < 5; p++) {
            Due.due("ended(0, " + p + ")", x.ended(0, p), -1);
            Due.due("ended(1, " + p + ")", x.ended(1, p), ofTwo[p]);
        }
    }

    static void endedNoSuch() {
        Due.says(30, "no such ones.");
        TwoPencils x = Due.lands(PAIR);
        Due.protocols(x, "a");
        Due.due("protocol -1", x.ended(0, -1), -1);
        Due.due("protocol 1", x.ended(0, 1), -1);
        Due.due("land -1", x.ended(-1, 0), -1);
        Due.due("land 1", x.ended(1, 0), -1);
        for (int n : Due.FAR_OUT) {
            Due.due("protocol " + n, x.ended(0, n), -1);
            Due.due("land " + n, x.ended(n, 0), -1);
        }
    }

    static void first() {
        Due.says(31, "FIRST.");
        TwoPencils x = Due.lands("3/2;0-1;1-2;0:9,0;1:0,5;2:1,0", PAIR);
        Due.protocols(x, "a", "b", "a/b");
        int[] first = {2, -2, -2};
        for (int p = 0; p < 3; p++) {
            Due.due("first(0, " + p + ")", x.first(0, p), first[p]);
            Due.due("first(1, " + p + ")", x.first(1, p), 0);
        }
    }

    static void firstNoSuch() {
        Due.says(31, "HIDDEN: no such ones.");
        TwoPencils x = Due.lands(PAIR);
        Due.protocols(x, "a");
        Due.due("protocol -1", x.first(0, -1), -100);
        Due.due("protocol 1", x.first(0, 1), -100);
        Due.due("land -1", x.first(-1, 0), -100);
        Due.due("land 1", x.first(1, 0), -100);
        for (int n : Due.FAR_OUT) {
            Due.due("protocol " + n, x.first(0, n), -100);
            Due.due("land " + n, x.first(n, 0), -100);
        }
    }

    static void worst() {
        Due.says(32, "WORST: the LAND.");
        TwoPencils x = Due.lands("2/2", "2/2", "2/2", "2/2", "2/2", "2/2;0:1,0");
        Due.protocols(x, "a", "b", "a", "b", "a", "b", "a", "a+b");
        Due.due("the last land", x.worst(0), 5);
        Due.due("the last but one protocol", x.worst(6), 5);
        x.vote(0, 0, 0, 5);
        Due.due("the first land", x.worst(6), 0);
    }

    static void worstThereIsNone() {
        Due.says(32, "NONE: there is none, no such PROTOCOL.");
        TwoPencils x = new TwoPencils();
        Due.protocols(x, "a", "a+b");
        Due.due("no land", x.worst(0), -1);
        Due.feed(x, TORN);
        Due.due("land()", x.land(), 0);
        Due.due("none has ended", x.worst(0), -1);
        Due.feed(x, TWO_ALONE);
        Due.due("land()", x.land(), 1);
        Due.due("one has ended, 0 by 1 far", x.worst(0), 1);
        Due.due("none by halves", x.worst(1), -1);
        Due.due("protocol -1", x.worst(-1), -1);
        Due.due("protocol 2", x.worst(2), -1);
        for (int n : Due.FAR_OUT) {
            Due.due("worst(" + n + ")", x.worst(n), -1);
        }
    }

    static void worse() {
        Due.says(33, "LANDS in which a PROTOCOL is WORSE than another one, as bits.");
        TwoPencils x = new TwoPencils();
        Due.protocols(x, "a", "b");
        Due.due("no land", x.worse(0, 1), 0);
        int bits = 0;
        for (int l = 0; l < 6; l++) {
            Due.feed(x, l == 2 ? BARE_ROW : ROW);
            Due.due("land()", x.land(), l);
            bits |= l == 2 ? 0 : 1 << l;
            Due.due("worse(0, 1)", x.worse(0, 1), bits);
            Due.due("worse(1, 0)", x.worse(1, 0), 0);
        }
        Due.due("all but 2", bits, 59);
    }

    static void worseNoSuch() {
        Due.says(33, "NONE: no such ones.");
        TwoPencils x = Due.lands(ROW);
        Due.protocols(x, "a", "b");
        Due.due("worse(-1, 0)", x.worse(-1, 0), -1);
        Due.due("worse(0, -1)", x.worse(0, -1), -1);
        Due.due("worse(2, 0)", x.worse(2, 0), -1);
        Due.due("worse(0, 2)", x.worse(0, 2), -1);
        Due.due("worse(2, 2)", x.worse(2, 2), -1);
        for (int n : Due.FAR_OUT) {
            Due.due("worse(" + n + ", 0)", x.worse(n, 0), -1);
            Due.due("worse(0, " + n + ")", x.worse(0, n), -1);
        }
    }
}
