import java.util.NoSuchElementException;

/** For each promise of the document: ordinary inputs, edges and wrong inputs, with answers worked out by hand. */
public final class Promises {
    private static int wrong = 0;

    // A row of four parishes. Cuts: 1 is 012|3, 5 is 01|23, 21 is 0|123; A wins 1, 2, 2 seats, B none.
    private static final String ROW = "4/2;0-1;1-2;2-3;0:5,1;1:1,4;2:2,3,1;3:6,0";
    // A ring of six with three seats.
    private static final String RING = "6/3;0-1;1-2;2-3;3-4;4-5;5-0;0:3,1;1:0,4;2:2,1;3:1,5;4:4,0;5:1,1";
    // Two parishes that are not beside each other: nothing can be drawn into one seat.
    private static final String TORN = "2/1;0:1,0;1:0,2";
    private static final int[] WRONG = {-1, -2, 9, 100, Integer.MAX_VALUE, Integer.MIN_VALUE};

    public static void main(String[] args) {
        p1();
        p2and3();
        p4OfLands();
        p4OfProtocols();
        p5and6();
        p7and8();
        p9();
        p10();
        p11and12();
        p13and14();
        p15and16();
        p17();
        p18and19();
        p20();
        p21to25Keeping();
        p21to25Others();
        p26and27();
        p28();
        p29to31();
        p32and33();
        p34();
        p26Joining();
        allPlacesTaken();
        wrongNumbers();
        System.out.println(wrong == 0 ? "all answers are as due" : wrong + " answers are not as due");
        if (wrong != 0) {
            System.exit(1);
        }
    }

    private static void due(int promise, String call, long got, long want) {
        if (got != want) {
            wrong++;
            System.out.println("promise " + promise + ": " + call + " answered " + got + ", due is " + want);
        }
    }

    private static void due(int promise, String call, boolean got, boolean want) {
        due(promise, call, got ? 1 : 0, want ? 1 : 0);
    }

    private static TwoPencils with(String lands, String protocols) {
        TwoPencils x = new TwoPencils();
        for (String land : lands.split("\\|")) {
            Due.feed(x, land);
            due(5, land, x.land() >= 0, true);
        }
        for (String protocol : protocols.split("\\|")) {
            if (!protocol.isEmpty()) {
                Due.feed(x, protocol);
                due(6, protocol, x.protocol() >= 0, true);
            }
        }
        return x;
    }

    private static void p1() {
        TwoPencils x = new TwoPencils();
        for (int what = 0; what < 5; what++) {
            due(1, "count(" + what + ")", x.count(what), 0);
        }
        due(1, "land()", x.land(), -1);
        due(1, "protocol()", x.protocol(), -1);
        due(1, "told(0, 0)", x.told(0, 0), -1);
        due(1, "game(0, 0)", x.game(0, 0), -1);
        due(1, "NONE", TwoPencils.NONE, -1);
        due(1, "HIDDEN", TwoPencils.HIDDEN, -100);
    }

    private static void p2and3() {
        TwoPencils x = new TwoPencils();
        due(2, "nothing", x.feed(0, 0, 0, 0, 0), 0);
        due(2, "zeros are left out", x.feed(0x61003e00, 0, 0, 0x00000062, 0), 3);
        due(2, "they are a>b", x.protocol(), 0);
        due(2, "bytes above 127", x.feed(-1, 0x80000000, 0, 0, 0), 5);
        due(2, "are no texts", x.fault(1), 0);
        for (int i = 0; i < 14; i++) {
            due(2, "twenty", x.feed(-1, -1, -1, -1, -1), 25 + 20 * i);
        }
        due(2, "more than 300", x.feed(-1, -1, -1, -1, 0x01010100), -1);
        due(2, "it stays", x.count(4), 285);
        due(2, "just 300", x.feed(-1, -1, -1, 0x01010100, 0), 300);
        due(2, "one more", x.feed(1, 0, 0, 0, 0), -1);
        due(2, "none more", x.feed(0, 0, 0, 0, 0), 300);
        due(3, "end(301)", x.end(301), false);
        due(3, "end(-1)", x.end(-1), false);
        due(3, "end(300)", x.end(300), true);
        due(3, "end(7)", x.end(7), true);
        due(3, "end(8)", x.end(8), false);
        due(3, "count", x.count(4), 7);
        due(3, "end(0)", x.end(0), true);
        due(3, "count", x.count(4), 0);
        Due.feed(x, "a>bc");
        due(3, "end(3)", x.end(3), true);
        due(3, "a>b", x.fault(1), -1);
    }

    private static void fault(int sort, String text, int want) {
        TwoPencils x = new TwoPencils();
        Due.feed(x, text);
        due(4, "fault(" + sort + ") of '" + text + "'", x.fault(sort), want);
        due(4, "the tape stays", x.count(4), text.length());
        if (sort == 0) {
            due(5, "land() of '" + text + "'", x.land(), want == -1 ? 0 : -1);
        } else {
            due(6, "protocol() of '" + text + "'", x.protocol(), want == -1 ? 0 : -1);
        }
        due(5, "tape then", x.count(4), want == -1 ? 0 : text.length());
    }

    private static void p4OfLands() {
        due(4, "fault(2)", new TwoPencils().fault(2), -2);
        due(4, "fault(-1)", new TwoPencils().fault(-1), -2);
        fault(0, "", 0);
        fault(0, "   ", 3);
        fault(0, "2/1", -1);
        fault(0, " 009 / 004 ", -1);
        fault(0, "1/1", 0);
        fault(0, "10/1", 1);
        fault(0, "999/1", 2);
        fault(0, "1000/1", 3);
        fault(0, "0002/1", 3);
        fault(0, "1 0/1", 0);
        fault(0, "9", 1);
        fault(0, "9 ", 2);
        fault(0, "9 1", 2);
        fault(0, "9/", 2);
        fault(0, "9/0", 2);
        fault(0, "9/5", 2);
        fault(0, "9/05", 3);
        fault(0, "3/4", 2);
        fault(0, "2/2;", 4);
        fault(0, "2/2 ; ", 6);
        fault(0, "2/2;;", 4);
        fault(0, "2/2,", 3);
        fault(0, "2/2 1", 4);
        fault(0, "2/2;0", 5);
        fault(0, "2/2;0;", 5);
        fault(0, "2/2;2:1,1", 4);
        fault(0, "2/2;02-0", 5);
        fault(0, "2/2;1:9", 7);
        fault(0, "2/2;1:9;", 7);
        fault(0, "2/2;1:9,", 8);
        fault(0, "2/2;1:9,;", 8);
        fault(0, "2/2;1:99,099", -1);
        fault(0, "2/2;1:100,0", 8);
        fault(0, "2/2;1:9,100", 10);
        fault(0, "2/2;1:9,9,", 10);
        fault(0, "2/2;1:9,9,9", -1);
        fault(0, "2/2;1:9,9,100", 12);
        fault(0, "2/2;1:9,9,9,", 11);
        fault(0, "2/2;1:9,9 9", 10);
        fault(0, "2/2;1-1", 6);
        fault(0, "2/2;1=001", 8);
        fault(0, "2/2;1-2", 6);
        fault(0, "2/2;1-0;0=1", -1);
        fault(0, "2/2;1+0", 5);
        fault(0, "2/2;-", 4);
        fault(0, "2/2;<", 5);
        fault(0, "2/2;< 999;> 0", -1);
        fault(0, "2/2;<1000", 8);
        fault(0, "2/2;>9999", 8);
        fault(0, "2/2;<<", 5);
        fault(0, "2/2\t", 3);
        fault(0, "2/2;1: 9 , 9 , 9 ; 0 - 1 ; 1 = 0 ; > 1 ", -1);
        fault(0, "a", 0);
    }

    private static void p4OfProtocols() {
        fault(1, "", 0);
        fault(1, "  ", 2);
        fault(1, "a", -1);
        fault(1, "b", -1);
        fault(1, "c", 0);
        fault(1, "A", 0);
        fault(1, "a>b,b+a,a/b,b,a>b,b>a", -1);
        fault(1, " a > b , b ", -1);
        fault(1, "a>a", 2);
        fault(1, "b / b", 4);
        fault(1, "a+", 2);
        fault(1, "a+c", 2);
        fault(1, "a+,", 2);
        fault(1, "a-b", 1);
        fault(1, "ab", 1);
        fault(1, "a b", 2);
        fault(1, "a>bb", 3);
        fault(1, "a,", 2);
        fault(1, "a,,", 2);
        fault(1, ",a", 0);
        fault(1, "a;b", 1);
        fault(1, "a,b,a,b,a,b", -1);
        fault(1, "a,b,a,b,a,b,", 12);
        fault(1, "a,b,a,b,a,b,a", 12);
        fault(1, "a,b,a,b,a,b, a", 13);
        fault(1, "a,b,a,b,a,b x", 12);
        fault(1, "2/1", 0);
    }

    private static void p5and6() {
        TwoPencils x = new TwoPencils();
        for (int i = 0; i < 6; i++) {
            Due.feed(x, "2/1");
            due(5, "land()", x.land(), i);
            due(5, "empty then", x.count(4), 0);
        }
        Due.feed(x, "2/1");
        due(5, "a seventh", x.land(), -1);
        due(5, "it stays", x.count(4), 3);
        due(5, "no fault", x.fault(0), -1);
        due(5, "count", x.count(0), 6);
        x.end(0);
        for (int i = 0; i < 8; i++) {
            Due.feed(x, "a");
            due(6, "protocol()", x.protocol(), i);
        }
        Due.feed(x, "a");
        due(6, "a ninth", x.protocol(), -1);
        due(6, "it stays", x.count(4), 1);
        due(6, "count", x.count(1), 8);
    }

    private static int parish(TwoPencils x, int land, int parish, int what) {
        try {
            return x.parish(land, parish, what);
        } catch (NoSuchElementException e) {
            return -999;
        }
    }

    private static void p7and8() {
        TwoPencils x = with("5/2;0:1,2,3;1:4,5;0:7,8;2:0,0,9;4:99,0;<50;>3;<60;>4;0-3;3-0;1=2;2=4|2/1", "");
        int[] told = {5, 2, 4, 60, 110, 13, 9};
        for (int what = 0; what < 7; what++) {
            due(7, "told(0, " + what + ")", x.told(0, what), told[what]);
        }
        due(7, "least at first", x.told(1, 2), 0);
        due(7, "greatest at first", x.told(1, 3), 999);
        due(7, "votes at first", x.told(1, 4), 0);
        for (int w : WRONG) {
            due(7, "told(0, " + w + ")", x.told(0, w), -1);
            due(7, "told(" + w + ", 0)", x.told(w, 0), -1);
            due(8, "parish(" + w + ", 0, 0)", parish(x, w, 0, 0), -999);
            due(8, "parish(0, " + w + ", 0)", parish(x, 0, w, 0), -999);
            due(8, "parish(0, 0, " + w + ")", parish(x, 0, 0, w), -999);
        }
        due(8, "no fifth parish", parish(x, 0, 5, 0), -999);
        due(8, "parish(0, 4, 5)", parish(x, 0, 4, 5), -999);
        due(8, "no third land", parish(x, 2, 0, 0), -999);
        due(8, "told again, two of them: C", parish(x, 0, 0, 2), 0);
        due(8, "told again: A", parish(x, 0, 0, 0), 7);
        due(8, "told again: B", parish(x, 0, 0, 1), 8);
        due(8, "beside 0", parish(x, 0, 0, 3), 8);
        due(8, "beside 3", parish(x, 0, 3, 3), 1);
        due(8, "beside 1", parish(x, 0, 1, 3), 0);
        due(8, "stay with 1", parish(x, 0, 1, 4), 22);
        due(8, "stay with 2", parish(x, 0, 2, 4), 22);
        due(8, "stay with 4", parish(x, 0, 4, 4), 22);
        due(8, "stay with 3", parish(x, 0, 3, 4), 8);
    }

    private static void p9() {
        TwoPencils x = with(ROW + "|" + ROW, "a|a>b");
        due(9, "before", x.seats(0, 1, 1), 0);
        due(9, "sure before", x.sure(0, 0, 0), 2);
        due(9, "vote", x.vote(0, 1, 1, 99), true);
        due(9, "parish", parish(x, 0, 1, 1), 99);
        due(9, "told", x.told(0, 5), 103);
        due(9, "after", x.seats(0, 1, 1), 1);
        due(9, "sure after", x.sure(0, 0, 0), 0);
        due(9, "alone after", x.alone(0, 1, 0), 1);
        due(9, "the other land stays", x.told(1, 5), 8);
        due(9, "100", x.vote(0, 1, 1, 100), false);
        due(9, "-1", x.vote(0, 1, 1, -1), false);
        due(9, "0", x.vote(0, 1, 1, 0), true);
        for (int w : WRONG) {
            due(9, "land " + w, x.vote(w, 0, 0, 1), false);
            due(9, "parish " + w, x.vote(0, w, 0, 1), false);
            due(9, "party " + w, x.vote(0, 0, w, 1), false);
        }
        due(9, "party 3", x.vote(0, 0, 3, 1), false);
        due(9, "parish 4", x.vote(0, 4, 0, 1), false);
        x.game(0, 0);
        due(9, "with a game", x.vote(0, 1, 1, 5), false);
        due(9, "the other land", x.vote(1, 1, 1, 5), true);
        x.move(0, 1);
        due(9, "with a game that is over", x.vote(0, 1, 1, 5), false);
        due(9, "heads count for lawful", with(ROW + ";<14", "").all(0, -1), 1);
        TwoPencils y = with(ROW + ";<14", "");
        due(9, "one is lawful", y.all(0, 0), 5);
        due(9, "vote", y.vote(0, 0, 2, 30), true);
        due(9, "none then", y.all(0, -1), 0);
        due(9, "vote", y.vote(0, 0, 2, 0), true);
        due(9, "one again", y.all(0, -1), 1);
    }

    private static void p10() {
        TwoPencils x = with(ROW + "|4/2;0-1;1-2;2-3;0:9,0;1=2;>3;<40;3:1,1;1:1,2|9/4|5/4", "");
        due(10, "lawful", x.judge(0, 5), 0);
        due(10, "one seat", x.judge(0, 0), 1);
        due(10, "three seats", x.judge(0, 6), 1);
        due(10, "begins with 1", x.judge(0, 64), 1);
        due(10, "a gap", x.judge(0, 2), 1);
        due(10, "torn", x.judge(0, 17), 2);
        due(10, "greatest", x.judge(0, 255), 1);
        due(10, "beyond", x.judge(0, 256), -1);
        due(10, "below", x.judge(0, -1), -1);
        due(10, "heads", x.judge(1, 1), 3);
        due(10, "stay", x.judge(1, 5), 4);
        due(10, "the first seat's: torn", x.judge(1, 16), 2);
        due(10, "lawful", x.judge(1, 21), 0);
        due(10, "largest number", x.judge(2, 262143), 1);
        due(10, "beyond", x.judge(2, 262144), -1);
        due(10, "torn", x.judge(2, 27), 2);
        for (int w : WRONG) {
            due(10, "land " + w, x.judge(w, 0), -1);
        }
        TwoPencils y = with("3/2;0-1;1-2;0:1,0;1:50,49;<90", "");
        due(10, "heads of the second seat", y.judge(0, 5), 3);
        due(10, "torn comes before heads", y.judge(0, 4), 2);
        due(10, "default is at most 999", with("9/1;0-1;1-2;2-3;3-4;0:99,99,99;1:99,99,99;2:99,99,99;3:99,9;4-5;5-6;6-7;7-8", "").judge(0, 0), 0);
        due(10, "1000 are too many", with("9/1;0-1;1-2;2-3;3-4;0:99,99,99;1:99,99,99;2:99,99,99;3:99,10;4-5;5-6;6-7;7-8", "").judge(0, 0), 3);
        due(10, "just least and greatest", with("2/1;0-1;0:5,5;<10;>10", "").judge(0, 0), 0);
    }

    private static void p11and12() {
        TwoPencils x = with(ROW + "|3/3;0:0,0;1:0,0,4;2:3,3,3", "");
        due(11, "two have most", x.won(0, 1, 0), 3);
        due(11, "A", x.won(0, 1, 1), 0);
        due(11, "none has any", x.won(1, 6, 0), 3);
        due(11, "C", x.won(1, 6, 1), 2);
        due(11, "three have most", x.won(1, 6, 2), 3);
        due(11, "no such seat", x.won(0, 1, 2), -1);
        due(11, "no such seat", x.won(0, 1, -1), -1);
        due(11, "not lawful", x.won(0, 17, 0), -1);
        due(11, "no such number", x.won(0, 256, 0), -1);
        due(11, "no such land", x.won(2, 1, 0), -1);
        due(12, "A in 1", x.seats(0, 1, 0), 1);
        due(12, "A in 5", x.seats(0, 5, 0), 2);
        due(12, "B in 5", x.seats(0, 5, 1), 0);
        due(12, "C", x.seats(1, 6, 2), 1);
        due(12, "nobody is no party", x.seats(1, 6, 3), -1);
        due(12, "no such party", x.seats(1, 6, -1), -1);
        due(12, "not lawful", x.seats(0, 17, 0), -1);
        due(12, "no such land", x.seats(2, 1, 0), -1);
    }

    private static void p13and14() {
        TwoPencils x = with(ROW + "|" + TORN + "|" + RING, "");
        due(13, "how many", x.all(0, -1), 3);
        due(13, "0", x.all(0, 0), 1);
        due(13, "1", x.all(0, 1), 5);
        due(13, "2", x.all(0, 2), 21);
        due(13, "3", x.all(0, 3), -1);
        due(13, "-2", x.all(0, -2), -1);
        due(13, "none", x.all(1, -1), 0);
        due(13, "none", x.all(1, 0), -1);
        due(13, "a ring: three of six places to cut", x.all(2, -1), 20);
        due(13, "no such land", x.all(3, -1), -1);
        due(13, "nine alone beside all: ways to sort nine into four", with(complete(), "").all(0, -1), 7770);
        due(14, "most of A", x.alone(0, 0, 0), 2);
        due(14, "fewest of A", x.alone(0, 0, 1), 1);
        due(14, "first with most", x.alone(0, 0, 2), 5);
        due(14, "B", x.alone(0, 1, 0), 0);
        due(14, "B's first", x.alone(0, 1, 2), 1);
        due(14, "no cut", x.alone(1, 0, 0), -1);
        due(14, "no such party", x.alone(0, 3, 0), -1);
        due(14, "no such what", x.alone(0, 0, 3), -1);
        due(14, "no such land", x.alone(3, 0, 0), -1);
    }

    private static String complete() {
        StringBuilder text = new StringBuilder("9/4");
        for (int p = 0; p < 9; p++) {
            for (int q = 0; q < p; q++) {
                text.append(";" + q + "-" + p);
            }
        }
        return text.toString();
    }

    private static void p15and16() {
        TwoPencils x = with(ROW + "|2/1;0-1|2/1;0-1;0:0,7", "");
        due(15, "more than in 1", x.luck(0, 1, 0, 0), 2);
        due(15, "fewer than in 1", x.luck(0, 1, 0, 1), 0);
        due(15, "more than in 5", x.luck(0, 5, 0, 0), 0);
        due(15, "fewer than in 5", x.luck(0, 5, 0, 1), 1);
        due(15, "no such what", x.luck(0, 5, 0, 2), -1);
        due(15, "no such party", x.luck(0, 5, 3, 0), -1);
        due(15, "not lawful", x.luck(0, 17, 0, 0), -1);
        due(15, "no such land", x.luck(3, 5, 0, 0), -1);
        due(16, "5 for A", x.far(0, 5, 0, 0), 9);
        due(16, "5 for A", x.far(0, 5, 0, 1), 23);
        due(16, "1 for A", x.far(0, 1, 0, 0), 5);
        due(16, "1 for A", x.far(0, 1, 0, 1), 46);
        due(16, "5 for C", x.far(0, 5, 2, 0), 1);
        due(16, "5 for C", x.far(0, 5, 2, 1), 23);
        due(16, "without votes", x.far(1, 0, 0, 0), 0);
        due(16, "without votes", x.far(1, 0, 0, 1), 1);
        due(16, "just as votes", x.far(2, 0, 1, 0), 0);
        due(16, "just as votes", x.far(2, 0, 1, 1), 1);
        due(16, "no such what", x.far(0, 5, 0, 2), -1);
        due(16, "no such party", x.far(0, 5, -1, 0), -1);
        due(16, "not lawful", x.far(0, 17, 0, 0), -1);
        due(16, "no such land", x.far(-1, 5, 0, 0), -1);
    }

    private static void p17() {
        TwoPencils x = with(ROW + "|6/3", "");
        due(17, "itself", x.apart(0, 5, 5), 0);
        due(17, "one", x.apart(0, 1, 5), 1);
        due(17, "two", x.apart(0, 1, 21), 2);
        due(17, "one that is torn", x.apart(0, 17, 21), 1);
        due(17, "seats are paired anew", x.apart(0, 16, 21), 2);
        due(17, "judged 1", x.apart(0, 0, 21), -1);
        due(17, "judged 1", x.apart(0, 21, 0), -1);
        due(17, "no such number", x.apart(0, 256, 1), -1);
        due(17, "no such number", x.apart(0, 1, -1), -1);
        due(17, "no such land", x.apart(2, 1, 1), -1);
        // {0,1,2},{3,4},{5} and {0},{1,2,3},{4,5}: 1, 2 and 4 stay where they are, or 0, 3 and 5
        due(17, "three seats", x.apart(1, Due.cut(0, 0, 0, 1, 1, 2), Due.cut(0, 1, 1, 1, 2, 2)), 3);
    }

    private static void p18and19() {
        TwoPencils x = with(ROW + "|" + TORN + "|4/2;0-1;1-2;2-3|4/2;0-1;1-2;2-3;0:9,0;3:0,9;1:0,5;2:5,0", "");
        due(18, "1 has a neighbour that differs", x.settled(0, 1), 0);
        due(18, "5 has one too", x.settled(0, 5), 0);
        due(18, "21 has none", x.settled(0, 21), 1);
        due(18, "not lawful", x.settled(0, 17), -1);
        due(18, "no such land", x.settled(4, 1), -1);
        due(18, "without votes", x.settled(2, 5), 1);
        due(19, "near 1", x.near(0, 1), 21);
        due(19, "near 21", x.near(0, 21), 21);
        due(19, "near one that is torn", x.near(0, 17), 21);
        due(19, "judged 1", x.near(0, 0), -1);
        due(19, "no such number", x.near(0, 256), -1);
        due(19, "no such land", x.near(4, 1), -1);
        due(19, "no cut at all", x.near(1, 0), -1);
        due(19, "of several the first", x.near(2, 17), 1);
        due(19, "all are as they are", x.near(2, 5), 5);
    }

    private static void p20() {
        TwoPencils x = with(ROW + "|" + RING, "");
        due(20, "no step", x.walk(0, 5, 77L, 0), 5);
        due(20, "steps", x.walk(0, 5, 77L, 501), -1);
        due(20, "steps", x.walk(0, 5, 77L, -1), -1);
        due(20, "not lawful", x.walk(0, 17, 77L, 3), -1);
        due(20, "no such land", x.walk(2, 5, 77L, 3), -1);
        int from = Due.cut(0, 0, 1, 1, 2, 2);
        for (int steps = 1; steps <= 500; steps += 83) {
            due(20, "steps " + steps, x.walk(1, from, -5L, steps), walked(from, -5L, steps));
        }
    }

    /** In a ring a seat hangs together just if it has at most two ends. */
    private static int walked(int from, long seed, int steps) {
        int[] seat = new int[6];
        for (int p = 0; p < 6; p++) {
            seat[p] = from >> 2 * (5 - p) & 3;
        }
        long x = seed;
        for (int i = 0; i < steps; i++) {
            x = x * 6364136223846793005L + 1442695040888963407L;
            long y = x >>> 33;
            int[] next = seat.clone();
            next[(int) (y % 6)] = (int) (y / 6 % 3);
            int ends = 0;
            int present = 0;
            for (int p = 0; p < 6; p++) {
                ends += next[p] != next[(p + 1) % 6] ? 1 : 0;
                present |= 1 << next[p];
            }
            if (present == 7 && ends == 3) {
                int[] name = {-1, -1, -1};
                int used = 0;
                for (int p = 0; p < 6; p++) {
                    if (name[next[p]] < 0) {
                        name[next[p]] = used++;
                    }
                    next[p] = name[next[p]];
                }
                seat = next;
            }
        }
        return Due.cut(seat);
    }

    private static void at(TwoPencils x, int game, int phase, int turn) {
        due(22, "phase(" + game + ")", x.phase(game), phase);
        due(23, "turn(" + game + ")", x.turn(game), turn);
    }

    private static void p21to25Keeping() {
        TwoPencils x = with(RING + "|" + TORN, "a>b,b>a|a>b");
        due(21, "game", x.game(0, 0), 0);
        due(25, "none was made", x.undo(0), false);
        at(x, 0, 0, 0);
        due(24, "not lawful", x.move(0, Due.cut(0, 1, 0, 1, 2, 2)), false);
        due(24, "draw", x.move(0, Due.cut(0, 0, 1, 1, 2, 2)), true);
        at(x, 0, 1, 1);
        due(24, "no such seat", x.move(0, 3), false);
        due(24, "no such seat", x.move(0, -1), false);
        due(24, "keep 2 and 3", x.move(0, 1), true);
        at(x, 0, 0, 1);
        due(24, "a closed parish has a digit", x.move(0, Due.cut(0, 0, 1, 0, 1, 1)), false);
        due(24, "three seats", x.move(0, Due.cut(0, 1, 0, 0, 2, 2)), false);
        due(24, "draw the rest: 0 | 1 is torn from 4, 5", x.move(0, Due.cut(0, 1, 0, 0, 1, 1)), false);
        due(24, "draw the rest", x.move(0, Due.cut(0, 1, 0, 0, 0, 0)), true);
        at(x, 0, 1, 0);
        due(24, "keep 1", x.move(0, 1), true);
        at(x, 0, 0, 0);
        due(24, "draw the last", x.move(0, 1), false);
        due(24, "draw the last", x.move(0, 0), true);
        at(x, 0, 1, 1);
        due(24, "keep the last", x.move(0, 0), true);
        at(x, 0, 8, -1);
        due(24, "over", x.move(0, 0), false);
        due(28, "kept 0", x.kept(0, 0), 12);
        due(28, "kept 1", x.kept(0, 1), 2);
        due(28, "kept 2", x.kept(0, 2), 49);
        for (int i = 0; i < 4; i++) {
            due(25, "undo", x.undo(0), true);
        }
        at(x, 0, 0, 1);
        due(28, "kept then", x.kept(0, -1), 1);
        due(25, "undo", x.undo(0), true);
        at(x, 0, 1, 1);
        due(28, "kept then", x.kept(0, -1), 0);
        due(25, "undo", x.undo(0), true);
        at(x, 0, 0, 0);
        due(25, "none is left", x.undo(0), false);
        due(21, "broken from the first", x.game(1, 1), 1);
        at(x, 1, 9, -1);
        due(24, "broken", x.move(1, 0), false);
        due(21, "no such land", x.game(2, 0), -1);
        due(21, "no such protocol", x.game(0, 2), -1);
        for (int i = 2; i < 8; i++) {
            due(21, "game", x.game(0, 0), i);
        }
        due(21, "a ninth", x.game(0, 0), -1);
    }

    private static void p21to25Others() {
        TwoPencils x = with(ROW + "|2/1;0-1|5/2;0-1;1-2;2-3;3-4", "b|b+a|b/a|a>b,a+b");
        x.game(0, 0);
        at(x, 0, 2, 1);
        due(24, "all kept", x.move(0, 5), true);
        at(x, 0, 8, -1);
        due(28, "by numbers", x.kept(0, 0), 3);
        due(28, "by numbers", x.kept(0, 1), 12);
        x.game(0, 1);
        at(x, 1, 3, 1);
        due(24, "a cut is no halves", x.move(1, 5), false);
        due(24, "halves", x.move(1, 83), true);
        at(x, 1, 4, 0);
        due(24, "a seat of one half", x.move(1, 21), false);
        due(24, "joined", x.move(1, 5), true);
        at(x, 1, 8, -1);
        due(25, "undo", x.undo(1), true);
        at(x, 1, 4, 0);
        x.game(0, 2);
        at(x, 2, 5, 1);
        due(24, "the last has none behind it", x.move(2, 21), false);
        due(24, "first", x.move(2, 5), true);
        at(x, 2, 6, 1);
        due(24, "the same", x.move(2, 5), false);
        due(24, "a lower one", x.move(2, 1), false);
        due(24, "second", x.move(2, 21), true);
        at(x, 2, 7, 0);
        due(24, "no third", x.move(2, 2), false);
        due(24, "take the second", x.move(2, 1), true);
        at(x, 2, 8, -1);
        due(28, "kept", x.kept(2, 0), 1);
        due(28, "kept", x.kept(2, 1), 14);
        due(25, "undo", x.undo(2), true);
        at(x, 2, 7, 0);
        due(24, "take the first", x.move(2, 0), true);
        due(28, "kept", x.kept(2, 0), 3);
        x.game(1, 2);
        at(x, 3, 5, 1);
        due(24, "but one: drawn alone, and taken", x.move(3, 0), true);
        at(x, 3, 8, -1);
        due(28, "kept", x.kept(3, 0), 3);
        due(25, "undo", x.undo(3), true);
        at(x, 3, 5, 1);
        x.game(2, 3);
        due(24, "draw", x.move(4, Due.cut(0, 0, 0, 0, 1)), true);
        due(24, "keep the long one", x.move(4, 0), true);
        at(x, 4, 9, -1);
        due(28, "broken with what was kept", x.kept(4, -1), 1);
        due(25, "undo behind broken", x.undo(4), true);
        at(x, 4, 1, 1);
        due(24, "keep the short one", x.move(4, 1), true);
        at(x, 4, 3, 0);
        due(24, "halves to the base 8", x.move(4, 64), false);
        due(24, "0 1 | 2 3", x.move(4, 8 + 64), true);
        at(x, 4, 4, 1);
        due(24, "joined", x.move(4, 0), true);
        at(x, 4, 8, -1);
        due(28, "kept", x.kept(4, 1), 15);
    }

    private static void p26and27() {
        TwoPencils x = with(ROW + "|" + TORN, "a>b|b|b/a|b+a");
        for (int p = 0; p < 4; p++) {
            x.game(0, p);
        }
        x.game(1, 0);
        due(26, "draw", x.best(0, 0), 5);
        due(27, "value", x.value(0, 0), 2);
        due(27, "seats of A", x.value(0, 1), 2);
        due(27, "seats of B", x.value(0, 2), 0);
        due(26, "all alike: the lowest", x.best(0, 2), 1);
        due(26, "b draws", x.best(1, 0), 1);
        due(27, "b draws", x.value(1, 0), 1);
        due(26, "first of two", x.best(2, 0), 1);
        due(27, "first of two", x.value(2, 0), 2);
        x.move(2, 1);
        due(26, "second of two", x.best(2, 0), 5);
        x.move(2, 21);
        due(26, "a takes", x.best(2, 0), 1);
        due(26, "a takes by goal 2", x.best(2, 2), 0);
        due(27, "a takes", x.value(2, 0), 2);
        due(26, "halves", x.best(3, 0), 83);
        x.move(3, 83);
        due(26, "join", x.best(3, 0), 5);
        due(27, "join", x.value(3, 0), 2);
        x.move(3, 5);
        due(26, "over", x.best(3, 0), -1);
        due(27, "over", x.value(3, 1), 2);
        due(26, "broken", x.best(4, 0), -1);
        due(27, "broken", x.value(4, 0), 0);
        x.move(0, 1);
        due(26, "keep", x.best(0, 0), 0);
        due(27, "keep", x.value(0, 0), 1);
        x.move(0, 1);
        due(27, "with seats kept", x.value(0, 1), 1);
        for (int w : new int[] {-1, 3, 100}) {
            due(26, "goal " + w, x.best(0, w), -1);
            due(27, "goal " + w, x.value(0, w), -100);
        }
        TwoPencils y = with("4/2;0-1;1-2;2-3;0:0,9;1:2,0;2:0,1;3:0,3", "a|b|a>b,b");
        // 012|3: B, B; 01|23: B, B; 0|123: B, B - then with 1 at 8 votes for A: 0|123 is B, A
        due(29, "B wins all", y.sure(0, 0, 2), 2);
        y.vote(0, 1, 0, 8);
        due(29, "a lets B win but one", y.sure(0, 0, 2), 1);
        due(29, "b wins both", y.sure(0, 1, 2), 2);
        due(29, "balance", y.sure(0, 1, 0), -2);
        due(29, "b keeps what a drew", y.sure(0, 2, 0), 0);
    }

    private static void p28() {
        TwoPencils x = with(ROW, "a");
        x.game(0, 0);
        due(28, "none yet", x.kept(0, -1), 0);
        due(28, "none yet", x.kept(0, 0), -1);
        x.move(0, 21);
        due(28, "two", x.kept(0, -1), 2);
        due(28, "0", x.kept(0, 0), 1);
        due(28, "1", x.kept(0, 1), 14);
        due(28, "2", x.kept(0, 2), -1);
        due(28, "-2", x.kept(0, -2), -1);
        due(28, "no such game", x.kept(1, -1), -1);
    }

    private static void p29to31() {
        TwoPencils x = with(ROW + "|" + TORN, "a>b|b|a/b|a+b|b/a");
        int[] sure = {2, 1, 2, 2, 2};
        int[] ended = {5, 1, 5, 5, 5};
        int[] first = {1, -1, 0, 0, 0};
        for (int p = 0; p < 5; p++) {
            due(29, "sure(0, " + p + ", 0)", x.sure(0, p, 0), sure[p]);
            due(29, "sure(0, " + p + ", 1)", x.sure(0, p, 1), sure[p]);
            due(29, "sure(0, " + p + ", 2)", x.sure(0, p, 2), 0);
            due(29, "broken", x.sure(1, p, 0), 0);
            due(30, "ended(0, " + p + ")", x.ended(0, p), ended[p]);
            due(30, "broken", x.ended(1, p), -1);
            due(31, "first(0, " + p + ")", x.first(0, p), first[p]);
            due(31, "broken", x.first(1, p), 0);
        }
        due(29, "goal", x.sure(0, 0, 3), -100);
        due(29, "land", x.sure(2, 0, 0), -100);
        due(29, "protocol", x.sure(0, 5, 0), -100);
        due(30, "land", x.ended(2, 0), -1);
        due(30, "protocol", x.ended(0, 5), -1);
        due(31, "land", x.first(-1, 0), -100);
        due(31, "protocol", x.first(0, -1), -100);
        due(31, "no game was made", x.count(2), 0);
    }

    private static void p32and33() {
        // Far for A: ROW by a 9/23, by b 5/46; TORN has none.
        TwoPencils x = with(TORN + "|" + ROW, "a|b");
        due(32, "the only one", x.worst(0), 1);
        Due.feed(x, "2/2;0:1,0");
        x.land();
        // one of two seats, all votes: 1/2
        due(32, "farther", x.worst(0), 2);
        Due.feed(x, "2/2;0:1,0");
        x.land();
        due(32, "of several the lowest", x.worst(0), 2);
        due(32, "by b", x.worst(1), 2);
        due(32, "no such protocol", x.worst(2), -1);
        due(32, "no such protocol", x.worst(-1), -1);
        due(33, "a is worse in ROW", x.worse(0, 1), 2);
        due(33, "b is worse nowhere", x.worse(1, 0), 0);
        due(33, "itself", x.worse(0, 0), 0);
        due(33, "no such protocol", x.worse(0, 2), -1);
        due(33, "no such protocol", x.worse(-1, 0), -1);
        due(32, "no land has ended", with(TORN, "a").worst(0), -1);
        // a+b can not be done with two parishes for two seats: worse needs both to have ended.
        due(33, "one has not ended", with("2/2;0:1,0", "a|a+b").worse(0, 1), 0);
        due(33, "one has not ended", with("2/2;0:1,0", "a|a+b").worse(1, 0), 0);
    }

    private static void p34() {
        TwoPencils x = with(ROW + "|" + TORN, "a|b|a");
        Due.feed(x, "a,b");
        x.game(0, 0);
        x.game(1, 0);
        int[] counts = {2, 3, 2, 1, 3};
        for (int what = 0; what < 5; what++) {
            due(34, "count(" + what + ")", x.count(what), counts[what]);
        }
        x.move(0, 1);
        due(34, "over and broken", x.count(3), 2);
        x.undo(0);
        due(34, "broken", x.count(3), 1);
        due(34, "count(5)", x.count(5), -1);
        due(34, "count(-1)", x.count(-1), -1);
    }

    /** Two ways to join: 03|14|25 and 04|12|35. The second is found later, but has the lower number. */
    private static void p26Joining() {
        String ring = "6/3;0-3;3-5;5-2;2-1;1-4;4-0";
        int halves = 0;
        for (int h = 0; h < 6; h++) {
            halves = halves * 8 + h;
        }
        int one = Due.cut(0, 1, 2, 0, 1, 2);
        int other = Due.cut(0, 1, 1, 2, 0, 2);
        TwoPencils x = with(ring + "|" + ring + ";0:1,0;1:1,0;3:0,2;5:0,1", "a+b|b+a");
        for (int l = 0; l < 2; l++) {
            for (int p = 0; p < 2; p++) {
                int g = x.game(l, p);
                due(26, "halves", x.best(g, 0), halves);
                due(24, "halves", x.move(g, halves), true);
                due(26, "join " + l + " " + p, x.best(g, 0), l == 1 && p == 0 ? one : other);
                due(27, "join " + l + " " + p, x.value(g, 0), l == 0 ? 0 : p == 0 ? -1 : 1);
                due(30, "ended " + l + " " + p, x.ended(l, p), l == 1 && p == 0 ? one : other);
                due(24, "no join", x.move(g, Due.cut(0, 0, 1, 1, 2, 2)), false);
                due(24, "join", x.move(g, one), true);
            }
        }
    }

    private static void allPlacesTaken() {
        TwoPencils x = with("2/1;0-1|2/1|2/1|2/1|2/1|2/1", "a|a|a|a|a|a|a|a");
        for (int g = 0; g < 8; g++) {
            due(21, "game", x.game(0, g), g);
        }
        due(7, "told(6, 0)", x.told(6, 0), -1);
        due(10, "judge(6, 0)", x.judge(6, 0), -1);
        due(22, "phase(8)", x.phase(8), -1);
        due(29, "sure(0, 8, 0)", x.sure(0, 8, 0), -100);
        due(29, "sure(6, 0, 0)", x.sure(6, 0, 0), -100);
        due(32, "worst(8)", x.worst(8), -1);
        due(33, "worse(0, 8)", x.worse(0, 8), -1);
        due(33, "worse(8, 0)", x.worse(8, 0), -1);
        due(24, "a number with a digit too much", x.move(0, 16), false);
        due(24, "below", x.move(0, -1), false);
        due(24, "the cut", x.move(0, 0), true);
    }

    private static void wrongNumbers() {
        TwoPencils x = with(ROW, "a>b");
        x.game(0, 0);
        for (int w : WRONG) {
            due(10, "judge", x.judge(0, w == 9 || w == 100 ? -7 : w), -1);
            due(13, "all", x.all(w, 0), -1);
            due(14, "alone", x.alone(w, 0, 0), -1);
            due(15, "luck", x.luck(w, 1, 0, 0), -1);
            due(16, "far", x.far(w, 1, 0, 0), -1);
            due(18, "settled", x.settled(w, 1), -1);
            due(19, "near", x.near(w, 1), -1);
            due(20, "walk", x.walk(w, 1, 0L, 1), -1);
            due(21, "game", x.game(w, 0), -1);
            due(21, "game", x.game(0, w), -1);
            due(22, "phase", x.phase(w), -1);
            due(23, "turn", x.turn(w), -1);
            due(24, "move", x.move(w, 1), false);
            due(24, "move", x.move(0, w == 100 ? 256 : w), false);
            due(25, "undo", x.undo(w), false);
            due(26, "best", x.best(w, 0), -1);
            due(27, "value", x.value(w, 0), -100);
            due(28, "kept", x.kept(w, 0), -1);
            due(29, "sure", x.sure(w, 0, 0), -100);
            due(30, "ended", x.ended(0, w), -1);
            due(31, "first", x.first(w, 0), -100);
            due(32, "worst", x.worst(w), -1);
            due(33, "worse", x.worse(0, w), -1);
            due(34, "count", x.count(w), -1);
        }
    }
}
