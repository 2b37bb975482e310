/** Boundary cases of tapes, texts, lands as told, votes and counts: a test of its own for each sentence (promises 1 to 9 and 34). */
public final class BoundariesOfTexts {
    private static final String SIX_ROUNDS = "a,b,a>b,b+a,a/b,b";

    public static void main(String[] args) {
        Due.runAll(BoundariesOfTexts.class);
    }

    // ---- texts of lands ----

    static void sixLands() {
        Due.says(0, "LANDS (6 at most)");
        TwoPencils x = Due.lands("2/1", "3/1", "4/1", "5/1", "6/1", "7/1");
        Due.due("told(5, 0)", x.told(5, 0), 7);
        Due.feed(x, "8/1");
        String before = Due.picture(x);
        Due.due("a seventh land()", x.land(), -1);
        Due.same(before, x);
        Due.due("told(6, 0)", x.told(6, 0), -1);
    }

    static void sentencesAreParted() {
        Due.says(0, "are TEXTS: SENTENCES with ; between:");
        Due.noFault(0, "2/1", "2/1;<9", "2/1;<9;>1");
        Due.fault(0, ";", 0);
        Due.fault(0, ";2/1", 0);
        Due.fault(0, "2/1;", 4);
        Due.fault(0, "2/1;<9;", 7);
        Due.fault(0, "2/1;;<9", 4);
        Due.fault(0, "2/1<9", 3);
        Due.fault(0, "2/1 <9", 4);
        Due.fault(0, "2/1,<9", 3);
        Due.fault(0, "2/1;<9>1", 6);
        Due.fault(0, "2/1;<9,>1", 6);
        Due.fault(0, "2/1;0:1,1 1:1,1", 10);
    }

    static void twoToNineParishes() {
        Due.says(0, "first how many PARISHES (2 .. 9)");
        for (int n = 2; n <= 9; n++) {
            TwoPencils x = Due.lands(n + "/1");
            Due.due("told(0, 0)", x.told(0, 0), n);
            Due.due("the last parish", Due.parish(x, 0, n - 1, 0), 0);
            Due.due("none behind it", Due.parish(x, 0, n, 0), Due.NO_SUCH);
        }
        Due.fault(0, "0/1", 0);
        Due.fault(0, "1/1", 0);
        Due.fault(0, "10/1", 1);
        Due.fault(0, "11/1", 1);
        Due.fault(0, "999/1", 2);
        Due.fault(0, "<9;2/1", 0);
    }

    static void aStrokeBehindParishes() {
        Due.says(0, ", a /, and");
        Due.fault(0, "2", 1);
        Due.fault(0, "21", 1);
        Due.fault(0, "2 1", 2);
        Due.fault(0, "2;1", 1);
        Due.fault(0, "2:1", 1);
        Due.fault(0, "2//1", 2);
        Due.fault(0, "/2/1", 0);
        Due.fault(0, "2/1/1", 3);
    }

    static void oneToFourSeats() {
        Due.says(0, "how many SEATS (1 .. 4, not more than PARISHES)");
        for (int n = 2; n <= 9; n++) {
            Due.fault(0, n + "/0", 2);
            for (int m = 1; m <= 5; m++) {
                Due.fault(0, n + "/" + m, m <= 4 && m <= n ? -1 : 2);
            }
        }
        Due.due("told(0, 1)", Due.lands("4/4").told(0, 1), 4);
        Due.due("told(0, 1)", Due.lands("4/1").told(0, 1), 1);
        Due.fault(0, "9/10", 3);
        Due.fault(0, "9/999", 4);
    }

    static void noneOrManySentences() {
        Due.says(0, "; then any of:");
        Due.noFault(0, "2/1", "2/1;>1;0=1;<9;0-1;1:1,1", "2/1;0-1;0-1;1-0;0=1;0=1;>1;>1", "2/1;1:0,0;<1;1:2,2;<2");
        Due.fault(0, "2/1;2/1", 4);
        Due.fault(0, "3/1;2/1", 5);
        StringBuilder full = new StringBuilder("9/4");
        while (full.length() + 4 <= 300) {
            full.append(full.length() % 8 == 3 ? ";0-8" : ";7=8");
        }
        full.append(' ');
        Due.due("it fills the tape", full.length(), 300);
        Due.noFault(0, full.toString());
    }

    static void votesOfTwoOrThree() {
        Due.says(0, "PARISH : VOTES , VOTES, perhaps , VOTES");
        Due.noFault(0, "2/1;0:1,2", "2/1;0:1,2,3", "2/1;0:1,2;1:1,2");
        Due.fault(0, "2/1;0", 5);
        Due.fault(0, "2/1;0:", 6);
        Due.fault(0, "2/1;0:1", 7);
        Due.fault(0, "2/1;0:1;1:1,1", 7);
        Due.fault(0, "2/1;0:1,", 8);
        Due.fault(0, "2/1;0:,1", 6);
        Due.fault(0, "2/1;0:1,;", 8);
        Due.fault(0, "2/1;0:1,2,", 10);
        Due.fault(0, "2/1;0:1,2,;", 10);
        Due.fault(0, "2/1;0:1,2,3,", 11);
        Due.fault(0, "2/1;0:1,2,3,4", 11);
        Due.fault(0, "2/1;:1,2", 4);
        Due.fault(0, "2/1;0,1,2", 5);
    }

    static void votesOfPartiesInOrder() {
        Due.says(0, "of parties A, B, C;");
        TwoPencils x = Due.lands("2/1;1:7,8,9");
        for (int party = 0; party < 3; party++) {
            Due.due("parish(0, 1, " + party + ")", Due.parish(x, 0, 1, party), 7 + party);
            Due.due("parish(0, 0, " + party + ")", Due.parish(x, 0, 0, party), 0);
        }
    }

    static void votesToldFromNoneTo99() {
        Due.says(0, "0 .. 99 each;");
        TwoPencils x = Due.lands("2/1;0:0,99,0;1:99,0,99");
        int[] votes = {0, 99, 0, 99, 0, 99};
        for (int i = 0; i < 6; i++) {
            Due.due("parish(0, " + i / 3 + ", " + i % 3 + ")", Due.parish(x, 0, i / 3, i % 3), votes[i]);
        }
        Due.fault(0, "2/1;0:100,0,0", 8);
        Due.fault(0, "2/1;0:0,100,0", 10);
        Due.fault(0, "2/1;0:0,0,100", 12);
        Due.fault(0, "2/1;0:0,0,999", 12);
        Due.fault(0, "2/1;0:-1,0,0", 6);
        Due.fault(0, "2/1;0:0,-1,0", 8);
        Due.fault(0, "2/1;0:0,0,-1", 10);
    }

    static void votesToldAgain() {
        Due.says(0, "told again: these instead;");
        TwoPencils x = Due.lands("2/1;0:1,2,3;1:9,9,9;0:4,5,6", "2/1;0:1,2,3;0:0,0,0");
        for (int party = 0; party < 3; party++) {
            Due.due("told again", Due.parish(x, 0, 0, party), 4 + party);
            Due.due("not told again", Due.parish(x, 0, 1, party), 9);
            Due.due("0 told again", Due.parish(x, 1, 0, party), 0);
        }
        Due.due("of A in all", x.told(0, 4), 13);
    }

    static void votesAtFirst() {
        Due.says(0, "0 at first,");
        TwoPencils x = Due.lands("9/1;0:1,2,3", "9/1");
        for (int parish = 0; parish < 9; parish++) {
            for (int party = 0; party < 3; party++) {
                Due.due("untold", Due.parish(x, 0, parish, party), parish == 0 ? party + 1 : 0);
                Due.due("the land before tells nothing of this one", Due.parish(x, 1, parish, party), 0);
            }
        }
    }

    static void votesOfTwoPartiesAlone() {
        Due.says(0, "and where there are two of C)");
        TwoPencils x = Due.lands("2/1;0:1,2", "2/1;0:1,2,3;0:4,5");
        Due.due("C", Due.parish(x, 0, 0, 2), 0);
        Due.due("C told again by two", Due.parish(x, 1, 0, 2), 0);
        Due.due("B told again by two", Due.parish(x, 1, 0, 1), 5);
        Due.due("C in all", x.told(1, 6), 0);
    }

    static void besideEachOther() {
        Due.says(0, "PARISH - PARISH (these are BESIDE each other);");
        TwoPencils x = Due.lands("9/1;0-8;3-2;2-3;3-2;0=1");
        Due.due("beside 0", Due.parish(x, 0, 0, 3), Due.bits(8));
        Due.due("beside 8", Due.parish(x, 0, 8, 3), Due.bits(0));
        Due.due("beside 2", Due.parish(x, 0, 2, 3), Due.bits(3));
        Due.due("beside 3", Due.parish(x, 0, 3, 3), Due.bits(2));
        Due.due("to stay with is not to be beside", Due.parish(x, 0, 1, 3), 0);
        Due.fault(0, "2/1;0-", 6);
        Due.fault(0, "2/1;-1", 4);
        Due.fault(0, "2/1;0--1", 6);
        Due.fault(0, "3/1;0-1-2", 7);
    }

    static void stayTogether() {
        Due.says(0, "PARISH = PARISH (these must STAY together);");
        TwoPencils x = Due.lands("9/1;0=8;3=2;2=3;4-5");
        Due.due("stay with 0", Due.parish(x, 0, 0, 4), Due.bits(0, 8));
        Due.due("stay with 8", Due.parish(x, 0, 8, 4), Due.bits(0, 8));
        Due.due("stay with 3", Due.parish(x, 0, 3, 4), Due.bits(2, 3));
        Due.due("to be beside is not to stay", Due.parish(x, 0, 4, 4), Due.bits(4));
        Due.due("to stay is not to be beside", Due.parish(x, 0, 3, 3), 0);
        Due.fault(0, "2/1;0=", 6);
        Due.fault(0, "2/1;=1", 4);
        Due.fault(0, "2/1;0==1", 6);
        Due.fault(0, "3/1;0=1=2", 7);
    }

    static void mostAndLeastHeads() {
        Due.says(0, "< NUMBER, > NUMBER (HEADS that a SEAT has at most, at least:");
        TwoPencils x = Due.lands("2/1;<7;>3", "2/1;>7;<3");
        Due.due("least", x.told(0, 2), 3);
        Due.due("greatest", x.told(0, 3), 7);
        Due.due("least above the greatest", x.told(1, 2), 7);
        Due.due("greatest below the least", x.told(1, 3), 3);
        Due.fault(0, "2/1;<", 5);
        Due.fault(0, "2/1;>", 5);
        Due.fault(0, "2/1;<>1", 5);
        Due.fault(0, "2/1;1<", 5);
        Due.fault(0, "2/1;<7,8", 6);
    }

    static void headsFromNoneTo999() {
        Due.says(0, "0 .. 999; told again: this instead;");
        TwoPencils x = Due.lands("2/1;<0;>0", "2/1;<999;>999", "2/1;<5;<7;>6;>4", "2/1;<7;<5;>4;>6", "2/1;<7;<0;>4;>0");
        int[] least = {0, 999, 4, 6, 0};
        int[] greatest = {0, 999, 7, 5, 0};
        for (int l = 0; l < 5; l++) {
            Due.due("told(" + l + ", 2)", x.told(l, 2), least[l]);
            Due.due("told(" + l + ", 3)", x.told(l, 3), greatest[l]);
        }
        Due.fault(0, "2/1;<1000", 8);
        Due.fault(0, "2/1;>1000", 8);
        Due.fault(0, "2/1;<-1", 5);
        Due.fault(0, "2/1;>-1", 5);
    }

    static void headsAtFirst() {
        Due.says(0, "999 and 0 at first).");
        TwoPencils x = Due.lands("2/1;<7;>3", "2/1", "2/1;<7", "2/1;>3");
        int[] least = {3, 0, 0, 3};
        int[] greatest = {7, 999, 7, 999};
        for (int l = 0; l < 4; l++) {
            Due.due("told(" + l + ", 2)", x.told(l, 2), least[l]);
            Due.due("told(" + l + ", 3)", x.told(l, 3), greatest[l]);
        }
        // 999 heads in nine parishes may be in a seat, 1000 not.
        StringBuilder text = new StringBuilder("9/1;0-1;1-2;2-3;3-4;4-5;5-6;6-7;7-8;8:0,9,99");
        for (int p = 0; p < 3; p++) {
            text.append(";" + p + ":99,99,99");
        }
        TwoPencils y = Due.lands(text.toString());
        Due.due("999 heads", y.judge(0, 0), 0);
        Due.due("vote", y.vote(0, 8, 0, 1), true);
        Due.due("1000 heads", y.judge(0, 0), 3);
    }

    static void unlikeParishes() {
        Due.says(0, "The two PARISHES of a SENTENCE are unlike.");
        Due.noFault(0, "2/1;0-1", "2/1;1-0", "2/1;0=1", "2/1;1=0", "2/1;1:1,1");
        Due.fault(0, "2/1;0-0", 6);
        Due.fault(0, "2/1;1-1", 6);
        Due.fault(0, "2/1;0=0", 6);
        Due.fault(0, "9/1;8=8", 6);
        Due.fault(0, "9/1;8-008", 8);
    }

    static void parishesFromNoneOn() {
        Due.says(0, "PARISHES are numbered from 0 on.");
        Due.noFault(0, "2/1;0:1,1", "2/1;1:1,1", "9/1;8:1,1", "9/1;8-0", "9/1;0=8");
        for (int n = 2; n <= 9; n++) {
            Due.fault(0, n + "/1;" + n + ":1,1", 4);
            Due.fault(0, n + "/1;" + n + "-0", 4);
            Due.fault(0, n + "/1;0-" + n, 6);
            Due.fault(0, n + "/1;0=" + n, 6);
            Due.fault(0, n + "/1;0-" + (n - 1), -1);
        }
        Due.fault(0, "2/1;-1:1,1", 4);
    }

    static void oneToThreeDigits() {
        Due.says(0, "Numbers have one to three digits;");
        Due.noFault(0, "2/1;1:9,9,9;<9", "02/01;01:09,09,09;00-01;00=01;<09;>09", "002/001;001:009,099,009;000-001;000=001;<009;>009");
        TwoPencils x = Due.lands("009/004;008:007,070,077;<099;>010");
        int[] told = {9, 4, 10, 99, 7, 70, 77};
        for (int what = 0; what < 7; what++) {
            Due.due("told(0, " + what + ")", x.told(0, what), told[what]);
        }
        Due.fault(0, "/1", 0);
        Due.fault(0, "2/;", 2);
        Due.fault(0, "0002/1", 3);
        Due.fault(0, "2/0001", 5);
        Due.fault(0, "2/1;0001:1,1", 7);
        Due.fault(0, "2/1;1:0001,1", 9);
        Due.fault(0, "2/1;1:1,0001", 11);
        Due.fault(0, "2/1;1:1,1,0001", 13);
        Due.fault(0, "2/1;0-0001", 9);
        Due.fault(0, "2/1;0=0001", 9);
        Due.fault(0, "2/1;<0001", 8);
        Due.fault(0, "2/1;>0001", 8);
        Due.fault(0, "+2/1", 0);
        Due.fault(0, "2.0/1", 1);
    }

    static void blanksBetween() {
        Due.says(0, "blanks (32) may stand between all these, not within numbers.");
        String text = "2/1;0:1,2,3;0-1;0=1;<9;>1";
        StringBuilder wide = new StringBuilder("  ");
        for (char c : text.toCharArray()) {
            wide.append(c).append("  ");
        }
        Due.noFault(0, text, wide.toString(), " " + text, text + " ");
        Due.fault(0, "0 2/1", 0);
        Due.fault(0, "02 1/1", 3);
        Due.fault(0, "2/1 1", 4);
        Due.fault(0, "2/1;1 1:1,1", 6);
        Due.fault(0, "2/1;1:9 9,1", 8);
        Due.fault(0, "2/1;1:9,9 9", 10);
        Due.fault(0, "2/1;<9 9", 7);
        for (char other : new char[] {9, 10, 13, 31, 33, 127, 128, 160, 255}) {
            Due.fault(0, other + "2/1", 0);
            Due.fault(0, "2" + other + "/1", 1);
            Due.fault(0, "2/1" + other, 3);
            Due.fault(0, "2/1;" + other + "<9", 4);
        }
        Due.due("blanks count on the tape", Due.feed(new TwoPencils(), "    "), 4);
    }

    static void faultIsTheFirst() {
        Due.says(0, "FAULT: the first byte at which no LAND can go on");
        Due.fault(0, "x", 0);
        Due.fault(0, "x2/1", 0);
        Due.fault(0, "2x/y", 1);
        Due.fault(0, "2/x;y", 2);
        Due.fault(0, "2/1x;y", 3);
        Due.fault(0, "2/1;x;0-0", 4);
        Due.fault(0, "2/1;0x;0-0", 5);
        Due.fault(0, "2/1;0-x;0-0", 6);
        Due.fault(0, "2/1;0-1x;0-0", 7);
        Due.fault(0, "2/1;<x", 5);
        Due.fault(0, "2/1;<1x", 6);
        Due.fault(0, "2/1;0:1x", 7);
        Due.fault(0, "2/1;0:1,x", 8);
        Due.fault(0, "2/1;0:1,1x", 9);
        Due.fault(0, "1/x", 0);
        Due.fault(0, "  1x", 2);
        // A sign beside the digits is none.
        Due.fault(0, "2/1;<1:", 6);
        Due.fault(0, "2/1;<1/", 6);
        Due.fault(0, (char) (50 + 128) + "/1", 0);
    }

    static void faultIsTheFirstOfTwo() {
        Due.says(0, "FAULT: the first byte at which no LAND can go on");
        Due.fault(0, "1/9", 0);
        Due.fault(0, "1000/9", 3);
        Due.fault(0, "9/5;x", 2);
        Due.fault(0, "2/1;2:100,x", 4);
        Due.fault(0, "2/1;2-2;x", 4);
        Due.fault(0, "2/1;0:100,100,100", 8);
        Due.fault(0, "2/1;0:100,1;x", 8);
        Due.fault(0, "2/1;0:1,100;x", 10);
        Due.fault(0, "2/1;0:1,1,100;x", 12);
        Due.fault(0, "2/1;0:1,1,100,", 12);
        Due.fault(0, "2/1;0-0;x", 6);
        Due.fault(0, "2/1;0=2;", 6);
        Due.fault(0, "2/1;<1000;x", 8);
        Due.fault(0, "2/1;>1000;x", 8);
        Due.fault(0, "2/1;<1000", 8);
        Due.fault(1, "a>a,x", 2);
        Due.fault(1, "a-b,x", 1);
        Due.fault(1, "c,d", 0);
    }

    static void faultIsTheLength() {
        Due.says(0, "(the length, if it ends too early)");
        String[] early = {"", "2", "2/", "2/1;", "2/1;0", "2/1;0:", "2/1;0:1", "2/1;0:1,", "2/1;0:1,1,", "2/1;0-", "2/1;0=",
            "2/1;<", "2/1;>", "2/1;<9;", "9/4;008"};
        for (String text : early) {
            Due.fault(0, text, text.length());
            Due.fault(0, text + " ", text.length() + 1);
            Due.fault(0, " " + text + "  ", text.length() + 3);
        }
        String blanks = filled(300).replace('a', ' ');
        Due.fault(0, blanks, 300);
        Due.noFault(0, blanks.substring(0, 297) + "2/1");
        Due.fault(0, blanks.substring(0, 298) + "2/", 300);
        Due.fault(0, blanks.substring(0, 299) + "2", 300);
        Due.fault(0, blanks.substring(0, 299) + "x", 299);
    }

    static void fourthDigit() {
        Due.says(0, ", but: a number is read with all its digits, a fourth one is such;");
        Due.fault(0, "1000/1", 3);
        Due.fault(0, "9999/1", 3);
        Due.fault(0, "0000/1", 3);
        Due.fault(0, "0002", 3);
        Due.fault(0, "00002/1", 3);
        Due.fault(0, "9/9999", 5);
        Due.fault(0, "2/1;9999:1,1", 7);
        Due.fault(0, "2/1;0:9999,1", 9);
        Due.fault(0, "2/1;0:1,9999", 11);
        Due.fault(0, "2/1;0:1,1,9999", 13);
        Due.fault(0, "2/1;0-0000", 9);
        Due.fault(0, "2/1;0=9999", 9);
        Due.fault(0, "2/1;<9999", 8);
        Due.fault(0, "2/1;>12345", 8);
    }

    static void lastDigitOutOfBounds() {
        Due.says(0, "if it is out of bounds (or like the other PARISH), its last digit is.");
        Due.fault(0, "1", 0);
        Due.fault(0, "01/1", 1);
        Due.fault(0, "001/1", 2);
        Due.fault(0, "10", 1);
        Due.fault(0, "123/1", 2);
        Due.fault(0, "200/1", 2);
        Due.fault(0, "2/00", 3);
        Due.fault(0, "2/003", 4);
        Due.fault(0, "9/123", 4);
        Due.fault(0, "2/1;02:1,1", 5);
        Due.fault(0, "2/1;123-0", 6);
        Due.fault(0, "2/1;0:123,1", 8);
        Due.fault(0, "2/1;0:1,0100", 11);
        Due.fault(0, "2/1;0:1,100", 10);
        Due.fault(0, "2/1;0-20", 7);
        Due.fault(0, "2/1;1-01", 7);
        Due.fault(0, "2/1;001=001", 10);
        Due.fault(0, "2/1;0-000;x", 8);
    }

    // ---- texts of protocols ----

    static void eightProtocols() {
        Due.says(0, "PROTOCOLS (8 at most) are TEXTS:");
        TwoPencils x = Due.lands("2/1;0-1");
        Due.protocols(x, "a", "b", "a>b", "b>a", "a+b", "b+a", "a/b", "b");
        Due.feed(x, "a");
        String before = Due.picture(x);
        Due.due("a ninth protocol()", x.protocol(), -1);
        Due.same(before, x);
        Due.due("the eighth", x.game(0, 7), 0);
        Due.due("its turn", x.turn(0), 1);
        Due.due("a ninth", x.game(0, 8), -1);
    }

    static void sixRounds() {
        Due.says(0, "ROUNDS (6 at most) with , between,");
        Due.noFault(1, "a", "a,b", SIX_ROUNDS, "a>b,a>b,a>b,a>b,a>b,a>b");
        Due.fault(1, "", 0);
        Due.fault(1, ",", 0);
        Due.fault(1, ",a", 0);
        Due.fault(1, "a,", 2);
        Due.fault(1, "a,,b", 2);
        Due.fault(1, "a;b", 1);
        Due.fault(1, "a b", 2);
        Due.fault(1, "a>b b", 4);
        Due.fault(1, "a>bb", 3);
        Due.fault(1, SIX_ROUNDS + ",a>b", SIX_ROUNDS.length() + 1);
    }

    static void twoPlayersOrOne() {
        Due.says(0, "each of two unlike PLAYERS (a, b) with > + or / between, or of one alone.");
        Due.noFault(1, "a", "b", "a>b", "b>a", "a+b", "b+a", "a/b", "b/a");
        for (String other : new String[] {"c", "A", "B", "0", ">", "`"}) {
            Due.fault(1, other, 0);
            Due.fault(1, "a>" + other, 2);
        }
        for (String other : new String[] {"-", "=", "<", "*", ".", "?", "b"}) {
            Due.fault(1, "a" + other + "b", 1);
        }
        Due.fault(1, "a>", 2);
        Due.fault(1, "b/", 2);
        Due.fault(1, "a>>b", 2);
        Due.fault(1, "a>b>a", 3);
        Due.fault(1, "a>,b", 2);
    }

    static void blanksAndFaultsOfProtocols() {
        Due.says(0, "(Blanks likewise; FAULT likewise;");
        Due.noFault(1, "  a  >  b  ,  b  ", "a ", " a");
        Due.fault(1, "   ", 3);
        Due.fault(1, "a > ", 4);
        Due.fault(1, " a , ", 5);
        Due.fault(1, "a\t", 1);
        Due.fault(1, "a" + (char) 160 + ">b", 1);
        Due.fault(1, "a>x,a>a", 2);
        String blanks = filled(299).replace('a', ' ');
        Due.noFault(1, blanks + "b");
        Due.fault(1, blanks + " ", 300);
        Due.fault(1, blanks + "c", 299);
    }

    static void seventhRound() {
        Due.says(0, "a seventh ROUND's first byte is such,");
        Due.fault(1, "a,b,a,b,a,b,a", 12);
        Due.fault(1, "a,b,a,b,a,b,a>b", 12);
        Due.fault(1, "a,b,a,b,a,b  ,  a>b", 16);
        Due.fault(1, "a,b,a,b,a,b,", 12);
        Due.fault(1, "a,b,a,b,a,b, ", 13);
        Due.fault(1, "a,b,a,b,a,b,x", 12);
        Due.fault(1, SIX_ROUNDS + ",a", SIX_ROUNDS.length() + 1);
    }

    static void likePlayers() {
        Due.says(0, "and the second one's, if it is like the first.)");
        for (String player : new String[] {"a", "b"}) {
            for (String sign : new String[] {">", "+", "/"}) {
                Due.fault(1, player + sign + player, 2);
                Due.fault(1, " " + player + " " + sign + " " + player + " ", 5);
                Due.fault(1, "b,a," + player + sign + player, 6);
            }
        }
        Due.noFault(1, "a>b,b>a", "a,a,a");
    }

    // ---- promises 1 to 9 and 34 ----

    static void nothingIsTold() {
        Due.says(1, "Nothing is told.");
        TwoPencils x = new TwoPencils();
        for (int what = 0; what < 5; what++) {
            Due.due("count(" + what + ")", x.count(what), 0);
        }
        Due.due("end(0)", x.end(0), true);
        Due.due("end(1)", x.end(1), false);
        Due.due("fault(0)", x.fault(0), 0);
        Due.due("fault(1)", x.fault(1), 0);
        Due.due("land()", x.land(), -1);
        Due.due("protocol()", x.protocol(), -1);
        Due.due("told(0, 0)", x.told(0, 0), -1);
        Due.due("parish(0, 0, 0)", Due.parish(x, 0, 0, 0), Due.NO_SUCH);
        Due.due("vote(0, 0, 0, 1)", x.vote(0, 0, 0, 1), false);
        Due.due("judge(0, 0)", x.judge(0, 0), -1);
        Due.due("won(0, 0, 0)", x.won(0, 0, 0), -1);
        Due.due("seats(0, 0, 0)", x.seats(0, 0, 0), -1);
        Due.due("all(0, NONE)", x.all(0, -1), -1);
        Due.due("alone(0, 0, 0)", x.alone(0, 0, 0), -1);
        Due.due("luck(0, 0, 0, 0)", x.luck(0, 0, 0, 0), -1);
        Due.due("far(0, 0, 0, 0)", x.far(0, 0, 0, 0), -1);
        Due.due("apart(0, 0, 0)", x.apart(0, 0, 0), -1);
        Due.due("settled(0, 0)", x.settled(0, 0), -1);
        Due.due("near(0, 0)", x.near(0, 0), -1);
        Due.due("walk(0, 0, 0, 0)", x.walk(0, 0, 0L, 0), -1);
        Due.due("game(0, 0)", x.game(0, 0), -1);
        Due.due("phase(0)", x.phase(0), -1);
        Due.due("turn(0)", x.turn(0), -1);
        Due.due("move(0, 0)", x.move(0, 0), false);
        Due.due("undo(0)", x.undo(0), false);
        Due.due("best(0, 0)", x.best(0, 0), -1);
        Due.due("value(0, 0)", x.value(0, 0), -100);
        Due.due("kept(0, NONE)", x.kept(0, -1), -1);
        Due.due("sure(0, 0, 0)", x.sure(0, 0, 0), -100);
        Due.due("ended(0, 0)", x.ended(0, 0), -1);
        Due.due("first(0, 0)", x.first(0, 0), -100);
        Due.due("worst(0)", x.worst(0), -1);
        Due.due("worse(0, 0)", x.worse(0, 0), -1);
    }

    static void objectsApart() {
        Due.says(1, "Nothing is told.");
        TwoPencils x = Due.lands("2/1;0-1;0:1,0");
        Due.protocols(x, "a");
        x.game(0, 0);
        Due.feed(x, "b");
        TwoPencils y = new TwoPencils();
        for (int what = 0; what < 5; what++) {
            Due.due("count(" + what + ") of another one", y.count(what), 0);
        }
        Due.feed(y, "2/1;1:0,5");
        y.land();
        Due.due("the first one's land", x.told(0, 5), 0);
        Due.due("the first one's tape", x.count(4), 1);
    }

    static void feedTwentyBytes() {
        Due.says(2, "Twenty bytes more come to the TAPE");
        TwoPencils x = new TwoPencils();
        Due.due("feed", x.feed(0x20202032, 0x20202020, 0x2f202020, 0x20203120, 0x2020203b), 20);
        Due.due("fault(0)", x.fault(0), 20);
        Due.due("feed", x.feed(0x3c202020, 0x20202020, 0x20202020, 0x20202020, 0x20202037), 40);
        Due.due("land()", x.land(), 0);
        Due.due("told(0, 3)", x.told(0, 3), 7);
    }

    static void feedHighestFirst() {
        Due.says(2, "(of each number the highest first;");
        TwoPencils x = new TwoPencils();
        Due.due("feed", x.feed(0x392f343b, 0x383a312c, 0x322c333b, 0x302d383b, 0x3c383838), 20);
        Due.due("land()", x.land(), 0);
        int[] told = {9, 4, 0, 888, 1, 2, 3};
        for (int what = 0; what < 7; what++) {
            Due.due("told(0, " + what + ")", x.told(0, what), told[what]);
        }
        Due.due("beside 8", Due.parish(x, 0, 8, 3), Due.bits(0));
        // A byte of 128 and more at the highest place makes a number below zero.
        Due.due("feed", x.feed(0xe1616161, 0, 0, 0, 0), 4);
        Due.due("fault(1)", x.fault(1), 0);
        x.end(0);
        Due.due("feed", x.feed(0x61e16161, 0, 0, 0, 0), 4);
        Due.due("fault(1)", x.fault(1), 1);
    }

    static void feedZeros() {
        Due.says(2, "bytes of 0 are left out):");
        TwoPencils x = new TwoPencils();
        Due.due("none but zeros", x.feed(0, 0, 0, 0, 0), 0);
        Due.due("zeros at each place", x.feed(0x61000000, 0x003e0000, 0x00006200, 0x0000002c, 0), 4);
        Due.due("zeros between", x.feed(0x62002b00, 0x00610000, 0, 0, 0), 7);
        Due.due("fault(1)", x.fault(1), -1);
        Due.due("the digit 0 is no zero", x.feed(0x30, 0, 0, 0, 0), 8);
        Due.due("the least byte and the greatest one", x.feed(0x01ff01ff, 0x80000000, 0, 0, 0), 13);
    }

    static void feedTellsHowMany() {
        Due.says(2, "how many it has.");
        TwoPencils x = new TwoPencils();
        for (int i = 1; i <= 15; i++) {
            Due.due("feed", x.feed(-1, -1, -1, -1, -1), 20 * i);
            Due.due("count(4)", x.count(4), 20 * i);
        }
        Due.due("zeros to a full tape", x.feed(0, 0, 0, 0, 0), 300);
    }

    static void feedBeyond300() {
        Due.says(2, "NONE: more than 300.");
        TwoPencils x = new TwoPencils();
        for (int i = 0; i < 14; i++) {
            x.feed(-1, -1, -1, -1, -1);
        }
        Due.due("299", x.feed(-1, -1, -1, -1, 0x01010100), 299);
        String before = Due.picture(x);
        Due.due("two more", x.feed(0, 0, 0, 0, 0x6161), -1);
        Due.same(before, x);
        Due.due("twenty more", x.feed(-1, -1, -1, -1, -1), -1);
        Due.same(before, x);
        Due.due("one more", x.feed(0, 0, 0, 0, 0x61), 300);
        before = Due.picture(x);
        Due.due("one beyond", x.feed(0x61, 0, 0, 0, 0), -1);
        Due.same(before, x);
        Due.due("none beyond", x.feed(0, 0, 0, 0, 0), 300);
        Due.due("end(299)", x.end(299), true);
        Due.due("one again", x.feed(0, 0x6100, 0, 0, 0), 300);
    }

    static void feedBeyond300OfEachNumber() {
        Due.says(2, "NONE: more than 300.");
        for (int room = 0; room < 4; room++) {
            TwoPencils x = new TwoPencils();
            Due.feed(x, filled(300 - room));
            for (int number = 0; number < 5; number++) {
                int[] w = new int[5];
                w[number] = new int[] {0x01000000, 0x01000100, 0x00010101, 0x01010101}[room];
                Due.due("one too many in number " + number, x.feed(w[0], w[1], w[2], w[3], w[4]), -1);
                Due.due("it stays", x.count(4), 300 - room);
                w[number] = new int[] {0, 0x00010000, 0x01000001, 0x00010101}[room];
                Due.due("just as many in number " + number, x.feed(w[0], w[1], w[2], w[3], w[4]), 300);
                Due.due("end", x.end(300 - room), true);
            }
            Due.due("one in each of four", x.feed(1, 1 << 8, 0, 1 << 16, 1 << 24), -1);
            Due.due("it stays", x.count(4), 300 - room);
        }
    }

    private static String filled(int length) {
        StringBuilder text = new StringBuilder();
        for (int i = 0; i < length; i++) {
            text.append('a');
        }
        return text.toString();
    }

    static void refusedFeedAddsNothing() {
        Due.says(2, "NONE: more than 300.");
        TwoPencils x = new TwoPencils();
        for (int i = 0; i < 14; i++) {
            x.feed(0x20202020, 0x20202020, 0x20202020, 0x20202020, 0x20202020);
        }
        x.feed(0x20202020, 0x20202020, 0x20202020, 0x20202020, 0x20200061);
        Due.due("count(4)", x.count(4), 299);
        Due.due("a refused >b", x.feed(0x3e62, 0, 0, 0, 0), -1);
        Due.due("fault(1)", x.fault(1), -1);
        Due.due("protocol()", x.protocol(), 0);
        Due.due("count(4)", x.count(4), 0);
    }

    static void endKeepsTheFirst() {
        Due.says(3, "The TAPE has its first n bytes alone.");
        TwoPencils x = new TwoPencils();
        Due.feed(x, "a>b,bx");
        Due.due("end(6), all of it", x.end(6), true);
        Due.due("fault(1)", x.fault(1), 5);
        Due.due("end(5)", x.end(5), true);
        Due.due("fault(1)", x.fault(1), -1);
        Due.due("end(4)", x.end(4), true);
        Due.due("fault(1)", x.fault(1), 4);
        Due.due("end(1)", x.end(1), true);
        Due.due("count(4)", x.count(4), 1);
        Due.due("feed goes on there", Due.feed(x, "+b"), 3);
        Due.due("fault(1)", x.fault(1), -1);
        Due.due("end(0)", x.end(0), true);
        Due.due("count(4)", x.count(4), 0);
        Due.due("end(0) again", x.end(0), true);
        Due.due("feed", Due.feed(x, "b"), 1);
        Due.due("protocol()", x.protocol(), 0);
    }

    static void endRefused() {
        Due.says(3, "False: n.");
        TwoPencils x = new TwoPencils();
        Due.feed(x, "a>b");
        String before = Due.picture(x);
        Due.due("end(4)", x.end(4), false);
        Due.due("end(-1)", x.end(-1), false);
        for (int n : Due.FAR_OUT) {
            Due.due("end(" + n + ")", x.end(n), false);
        }
        Due.due("end(300)", x.end(300), false);
        Due.same(before, x);
        Due.due("end(2)", x.end(2), true);
        Due.due("end(3), that is gone", x.end(3), false);
        Due.due("fault(1)", x.fault(1), 2);
    }

    static void faultOfBothSorts() {
        Due.says(4, "The FAULT of the TAPE as a LAND (0), a PROTOCOL (1).");
        TwoPencils x = new TwoPencils();
        Due.feed(x, "2/1");
        Due.due("fault(0)", x.fault(0), -1);
        Due.due("fault(1)", x.fault(1), 0);
        Due.feed(x, ";");
        Due.due("fault(0)", x.fault(0), 4);
        x.end(0);
        Due.feed(x, "a>b");
        Due.due("fault(0)", x.fault(0), 0);
        Due.due("fault(1)", x.fault(1), -1);
        Due.due("count(4)", x.count(4), 3);
    }

    static void faultNone() {
        Due.says(4, "NONE: none.");
        TwoPencils x = Due.lands("2/1", "2/1", "2/1", "2/1", "2/1", "2/1");
        Due.protocols(x, "a", "a", "a", "a", "a", "a", "a", "a");
        Due.feed(x, "2/1");
        Due.due("that it is refused is no fault", x.fault(0), -1);
        Due.due("land()", x.land(), -1);
        Due.due("fault(0)", x.fault(0), -1);
        x.end(0);
        Due.feed(x, "a");
        Due.due("that it is refused is no fault", x.fault(1), -1);
    }

    static void faultNoSuchSort() {
        Due.says(4, "-2: no such sort.");
        TwoPencils x = new TwoPencils();
        for (String text : new String[] {"", "2/1"}) {
            Due.feed(x, text);
            Due.due("fault(-1)", x.fault(-1), -2);
            Due.due("fault(2)", x.fault(2), -2);
            for (int sort : Due.FAR_OUT) {
                Due.due("fault(" + sort + ")", x.fault(sort), -2);
            }
        }
        Due.due("land()", x.land(), 0);
    }

    static void landEmptiesTheTape() {
        Due.says(5, "The TAPE (empty then; if refused it stays) is a LAND: its number.");
        TwoPencils x = new TwoPencils();
        for (int i = 0; i < 6; i++) {
            Due.feed(x, 2 + i + "/1");
            Due.due("land()", x.land(), i);
            Due.due("count(4)", x.count(4), 0);
            Due.due("land() of the empty tape", x.land(), -1);
            Due.due("count(0)", x.count(0), i + 1);
            Due.due("told(" + i + ", 0)", x.told(i, 0), 2 + i);
        }
    }

    static void landRefusedByAFault() {
        Due.says(5, "NONE: a FAULT,");
        for (String text : new String[] {"", " ", "x", "2/1;", "2/3", "a>b"}) {
            TwoPencils x = Due.lands("4/2;0:1,2,3;<9;>2");
            Due.feed(x, text);
            String before = Due.picture(x);
            Due.due("land() of '" + text + "'", x.land(), -1);
            Due.same(before, x);
            Due.due("votes stay", Due.parish(x, 0, 0, 2), 3);
            x.end(0);
            Due.feed(x, "2/2");
            Due.due("land() then", x.land(), 1);
        }
    }

    static void landRefusedAsThereAreSix() {
        Due.says(5, "there are six.");
        TwoPencils x = Due.lands("2/1", "2/1", "2/1", "2/1", "2/1", "2/1");
        Due.feed(x, "3/1");
        String before = Due.picture(x);
        Due.due("land()", x.land(), -1);
        Due.same(before, x);
        Due.due("it stays", x.count(4), 3);
        Due.due("end(0)", x.end(0), true);
        Due.feed(x, "a");
        Due.due("protocols have room", x.protocol(), 0);
    }

    static void protocolEmptiesTheTape() {
        Due.says(6, "The TAPE (empty then; if refused it stays) is a PROTOCOL: its number.");
        TwoPencils x = new TwoPencils();
        for (int i = 0; i < 8; i++) {
            Due.feed(x, i % 2 == 0 ? "a" : "b");
            Due.due("protocol()", x.protocol(), i);
            Due.due("count(4)", x.count(4), 0);
            Due.due("protocol() of the empty tape", x.protocol(), -1);
            Due.due("count(1)", x.count(1), i + 1);
        }
    }

    static void protocolRefusedByAFault() {
        Due.says(6, "NONE: a FAULT,");
        for (String text : new String[] {"", " ", "x", "a>a", "a,b,a,b,a,b,a", "2/1"}) {
            TwoPencils x = Due.game("2/1;0-1", "b>a");
            Due.feed(x, text);
            String before = Due.picture(x);
            Due.due("protocol() of '" + text + "'", x.protocol(), -1);
            Due.same(before, x);
            x.end(0);
            Due.feed(x, "a");
            Due.due("protocol() then", x.protocol(), 1);
        }
    }

    static void protocolRefusedAsThereAreEight() {
        Due.says(6, "there are eight.");
        TwoPencils x = new TwoPencils();
        Due.protocols(x, "a", "a", "a", "a", "a", "a", "a", "a");
        Due.feed(x, "a>b");
        String before = Due.picture(x);
        Due.due("protocol()", x.protocol(), -1);
        Due.same(before, x);
        Due.due("it stays", x.count(4), 3);
        x.end(0);
        Due.feed(x, "2/1");
        Due.due("lands have room", x.land(), 0);
    }

    static void toldOfALand() {
        Due.says(7, "Of a LAND: 0 PARISHES, 1 SEATS, 2 least, 3 greatest HEADS of a SEAT, 4, 5, 6 VOTES of A, B, C in all.");
        TwoPencils x = Due.lands("9/4;<900;>10;0:99,0,1;8:99,2", "2/1");
        int[] told = {9, 4, 10, 900, 198, 2, 1};
        int[] least = {2, 1, 0, 999, 0, 0, 0};
        for (int what = 0; what < 7; what++) {
            Due.due("told(0, " + what + ")", x.told(0, what), told[what]);
            Due.due("told(1, " + what + ")", x.told(1, what), least[what]);
        }
        for (int p = 0; p < 9; p++) {
            for (int party = 0; party < 3; party++) {
                x.vote(0, p, party, 99);
            }
        }
        for (int party = 0; party < 3; party++) {
            Due.due("all that can be", x.told(0, 4 + party), 891);
        }
    }

    static void toldOfOthers() {
        Due.says(7, "NONE for others.");
        TwoPencils x = Due.lands("9/4", "2/1");
        for (int l = 0; l < 2; l++) {
            Due.due("told(" + l + ", -1)", x.told(l, -1), -1);
            Due.due("told(" + l + ", 7)", x.told(l, 7), -1);
        }
        for (int what = 0; what < 7; what++) {
            Due.due("told(-1, " + what + ")", x.told(-1, what), -1);
            Due.due("told(2, " + what + ")", x.told(2, what), -1);
        }
        for (int n : Due.FAR_OUT) {
            Due.due("told(" + n + ", 0)", x.told(n, 0), -1);
            Due.due("told(0, " + n + ")", x.told(0, n), -1);
        }
    }

    static void parishVotes() {
        Due.says(8, "Of a PARISH: 0, 1, 2 VOTES,");
        TwoPencils x = Due.lands("9/1;0:1,2,3;8:97,98,99");
        for (int party = 0; party < 3; party++) {
            Due.due("parish(0, 0, " + party + ")", Due.parish(x, 0, 0, party), 1 + party);
            Due.due("parish(0, 8, " + party + ")", Due.parish(x, 0, 8, party), 97 + party);
        }
    }

    static void parishBeside() {
        Due.says(8, "3 which are BESIDE it,");
        StringBuilder text = new StringBuilder("9/1");
        for (int p = 0; p < 8; p++) {
            text.append(";8-" + p);
        }
        TwoPencils x = Due.lands(text.toString(), "9/1");
        Due.due("beside all", Due.parish(x, 0, 8, 3), 255);
        Due.due("beside one", Due.parish(x, 0, 0, 3), 256);
        Due.due("not by others", Due.parish(x, 0, 7, 3), 256);
        Due.due("beside none", Due.parish(x, 1, 8, 3), 0);
    }

    static void parishStay() {
        Due.says(8, "4 which must STAY with it (it itself, and by others, too), as bits.");
        TwoPencils x = Due.lands("9/1;0=1;2=3;1=2;3=4;8=7", "9/1;8=7;7=6;6=5;5=4;4=3;3=2;2=1;1=0", "9/1");
        for (int p = 0; p < 9; p++) {
            int stay = p < 5 ? Due.bits(0, 1, 2, 3, 4) : p < 7 ? Due.bits(p) : Due.bits(7, 8);
            Due.due("parish(0, " + p + ", 4)", Due.parish(x, 0, p, 4), stay);
            Due.due("all by others", Due.parish(x, 1, p, 4), 511);
            Due.due("itself alone", Due.parish(x, 2, p, 4), Due.bits(p));
        }
        Due.due("not to be beside", Due.parish(x, 0, 0, 3), 0);
    }

    static void parishStayByOne() {
        Due.says(8, "4 which must STAY with it (it itself, and by others, too), as bits.");
        for (int by = 0; by < 9; by++) {
            StringBuilder text = new StringBuilder("9/1");
            int stay = 1 << by;
            for (int p = by % 2; p < 9; p += 2) {
                if (p != by) {
                    text.append(";" + by + "=" + p);
                    stay |= 1 << p;
                }
            }
            TwoPencils x = Due.lands(text.toString());
            for (int p = 0; p < 9; p++) {
                int want = (stay >> p & 1) != 0 ? stay : 1 << p;
                Due.due("stay with " + p + " by " + by, Due.parish(x, 0, p, 4), want);
            }
        }
    }

    static void parishNoSuch() {
        Due.says(8, "NoSuchElementException: no such ones.");
        TwoPencils x = Due.lands("2/1", "9/1");
        for (int n = 0; n < 2; n++) {
            int parishes = n == 0 ? 2 : 9;
            Due.due("the last", Due.parish(x, n, parishes - 1, 0), 0);
            Due.due("behind the last", Due.parish(x, n, parishes, 0), Due.NO_SUCH);
            Due.due("before the first", Due.parish(x, n, -1, 0), Due.NO_SUCH);
            Due.due("what -1", Due.parish(x, n, 0, -1), Due.NO_SUCH);
            Due.due("what 4", Due.parish(x, n, 0, 4), 1);
            Due.due("what 5", Due.parish(x, n, 0, 5), Due.NO_SUCH);
        }
        Due.due("land -1", Due.parish(x, -1, 0, 0), Due.NO_SUCH);
        Due.due("land 2", Due.parish(x, 2, 0, 0), Due.NO_SUCH);
        for (int n : Due.FAR_OUT) {
            Due.due("land " + n, Due.parish(x, n, 0, 0), Due.NO_SUCH);
            Due.due("parish " + n, Due.parish(x, 0, n, 0), Due.NO_SUCH);
            Due.due("what " + n, Due.parish(x, 0, 0, n), Due.NO_SUCH);
        }
    }

    static void voteFromNowOn() {
        Due.says(9, "VOTES of a party (0 .. 2) in a PARISH from now on.");
        TwoPencils x = Due.lands("2/2;0:5,4;1:0,0,3", "2/2;0:5,4");
        Due.due("won(0, 1, 0)", x.won(0, 1, 0), 0);
        Due.due("vote", x.vote(0, 0, 1, 5), true);
        Due.due("won(0, 1, 0)", x.won(0, 1, 0), 3);
        Due.due("vote", x.vote(0, 0, 2, 99), true);
        Due.due("won(0, 1, 0)", x.won(0, 1, 0), 2);
        Due.due("told(0, 6)", x.told(0, 6), 102);
        Due.due("vote", x.vote(0, 1, 2, 0), true);
        Due.due("won(0, 1, 1)", x.won(0, 1, 1), 3);
        Due.due("vote", x.vote(0, 1, 0, 1), true);
        Due.due("won(0, 1, 1)", x.won(0, 1, 1), 0);
        Due.due("parish(0, 1, 0)", Due.parish(x, 0, 1, 0), 1);
        Due.due("another land stays", x.won(1, 1, 0), 0);
    }

    static void voteNoSuch() {
        Due.says(9, "False: no such ones,");
        TwoPencils x = Due.lands("2/1;0:1,2,3;1:4,5,6");
        String before = Due.picture(x);
        Due.due("the last of all", x.vote(0, 1, 2, 6), true);
        Due.due("land -1", x.vote(-1, 0, 0, 9), false);
        Due.due("land 1", x.vote(1, 0, 0, 9), false);
        Due.due("parish -1", x.vote(0, -1, 0, 9), false);
        Due.due("parish 2", x.vote(0, 2, 0, 9), false);
        Due.due("party -1", x.vote(0, 0, -1, 9), false);
        Due.due("party -1", x.vote(0, 1, -1, 9), false);
        Due.due("party 3", x.vote(0, 0, 3, 9), false);
        for (int n : Due.FAR_OUT) {
            Due.due("land " + n, x.vote(n, 0, 0, 9), false);
            Due.due("parish " + n, x.vote(0, n, 0, 9), false);
            Due.due("party " + n, x.vote(0, 0, n, 9), false);
        }
        Due.same(before, x);
    }

    static void voteOutOfBounds() {
        Due.says(9, "out of bounds;");
        TwoPencils x = Due.lands("2/1;0:1,2,3");
        for (int party = 0; party < 3; party++) {
            Due.due("99", x.vote(0, 0, party, 99), true);
            Due.due("100", x.vote(0, 0, party, 100), false);
            Due.due("it stays", Due.parish(x, 0, 0, party), 99);
            Due.due("0", x.vote(0, 0, party, 0), true);
            Due.due("-1", x.vote(0, 0, party, -1), false);
            Due.due("it stays", Due.parish(x, 0, 0, party), 0);
            for (int v : Due.FAR_OUT) {
                Due.due("vote " + v, x.vote(0, 0, party, v), false);
            }
        }
        Due.due("none in all", x.told(0, 4) + x.told(0, 5) + x.told(0, 6), 0);
    }

    static void voteWithAGame() {
        Due.says(9, "there is a GAME of that LAND.");
        TwoPencils x = Due.lands("2/1;0-1;0:1,2,3", "2/1;0-1", "2/1");
        Due.protocols(x, "a");
        Due.due("before", x.vote(0, 0, 0, 9), true);
        Due.due("a game refused is none", x.game(0, 1), -1);
        Due.due("before", x.vote(0, 0, 0, 8), true);
        Due.due("game(0, 0)", x.game(0, 0), 0);
        String before = Due.picture(x);
        Due.due("with one", x.vote(0, 0, 0, 7), false);
        Due.due("with one, as it is", x.vote(0, 0, 0, 8), false);
        Due.same(before, x);
        Due.due("another land", x.vote(1, 0, 0, 7), true);
        Due.play(x, 0, 0);
        Due.due("one that is over", x.vote(0, 1, 1, 7), false);
        x.undo(0);
        Due.due("one without moves", x.vote(0, 1, 1, 7), false);
        Due.due("a broken one", x.game(2, 0), 1);
        Due.due("phase(1)", x.phase(1), 9);
        Due.due("with a broken one", x.vote(2, 0, 0, 1), false);
        Due.due("parish(2, 0, 0)", Due.parish(x, 2, 0, 0), 0);
    }

    static void countOfEach() {
        Due.says(34, "0 LANDS, 1 PROTOCOLS, 2 GAMES, 3 those over (BROKEN too), 4 bytes of the TAPE.");
        TwoPencils x = new TwoPencils();
        int[] counts = new int[5];
        for (int i = 0; i < 8; i++) {
            Due.feed(x, i % 2 == 0 ? "2/1;0-1" : "2/1");
            counts[0] += x.land() >= 0 ? 1 : 0;
            x.end(0);
            Due.feed(x, "a");
            counts[1] += x.protocol() >= 0 ? 1 : 0;
            counts[2] += x.game(i % 2, i) >= 0 ? 1 : 0;
            counts[3] += i % 2;
            counts[4] = Due.feed(x, "abc");
            for (int what = 0; what < 5; what++) {
                Due.due("count(" + what + ")", x.count(what), counts[what]);
            }
            x.end(0);
        }
        Due.due("lands", counts[0], 6);
        Due.due("protocols", counts[1], 8);
        Due.due("games", counts[2], 8);
        Due.due("broken", counts[3], 4);
        for (int g = 0; g < 8; g += 2) {
            Due.play(x, g, 0);
            Due.due("count(3)", x.count(3), 5 + g / 2);
        }
        x.undo(0);
        Due.due("count(3)", x.count(3), 7);
    }

    static void countOfOthers() {
        Due.says(34, "NONE for others.");
        TwoPencils x = Due.lands("2/1");
        Due.due("count(-1)", x.count(-1), -1);
        Due.due("count(5)", x.count(5), -1);
        for (int what : Due.FAR_OUT) {
            Due.due("count(" + what + ")", x.count(what), -1);
        }
    }
}
