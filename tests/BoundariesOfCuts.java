import java.math.BigInteger;
import java.util.ArrayList;
import java.util.List;

/** Boundary cases of cuts, of what is told of them, and of walks: a test of its own for each sentence (promises 10 to 20). */
public final class BoundariesOfCuts {
    // Cuts 1 (012|3), 5 (01|23), 21 (0|123): A wins 1, 2, 2 seats, B and C none; votes are 14, 8, 1.
    private static final String ROW = "4/2;0-1;1-2;2-3;0:5,1;1:1,4;2:2,3,1;3:6,0";
    private static final String BARE_ROW = "4/2;0-1;1-2;2-3";
    // Cut 0 is judged 1, 17 2, 1 3, 5 4, 21 0.
    private static final String STRICT = "4/2;0-1;1-2;2-3;1=2;>3;0:9,0;1:1,2;3:1,1";
    private static final int[] STRICT_CUTS = {21, 0, 17, 1, 5};
    private static final int[] STRICT_JUDGED = {0, 1, 2, 3, 4};
    private static final String TORN = "2/1;0:1,0;1:0,2";

    public static void main(String[] args) {
        Due.runAll(BoundariesOfCuts.class);
    }

    /** A land where each two parishes are beside each other. */
    private static String complete(int parishes, int seats) {
        StringBuilder text = new StringBuilder(parishes + "/" + seats);
        for (int p = 0; p < parishes; p++) {
            for (int q = 0; q < p; q++) {
                text.append(";" + q + "-" + p);
            }
        }
        return text.toString();
    }

    private static int numbers(int parishes) {
        return 1 << 2 * parishes;
    }

    // ---- terms: seats and cuts ----

    static void headsAreAllVotes() {
        Due.says(0, "HEADS of a PARISH: all its VOTES.");
        TwoPencils x = Due.lands("2/2;0:3,4,5;1:12,0;<12;>12");
        int[] votes = {3, 4, 5};
        for (int party = 0; party < 3; party++) {
            Due.due("judge(0, 1)", x.judge(0, 1), 0);
            x.vote(0, 0, party, votes[party] + 1);
            Due.due("one more of " + party, x.judge(0, 1), 3);
            x.vote(0, 0, party, votes[party] - 1);
            Due.due("one less of " + party, x.judge(0, 1), 3);
            x.vote(0, 0, party, votes[party]);
        }
    }

    static void lawfulIfItHangsTogether() {
        Due.says(0, "A SEAT (some PARISHES) is LAWFUL, if these hang together by BESIDE,");
        TwoPencils x = Due.lands("2/2", "3/1;0-1;1-2", "3/1;0-1", "3/2;0-1;1-2", "3/1", "3/1;0=1;1=2");
        Due.due("one alone hangs together", x.judge(0, 1), 0);
        Due.due("by a third one", x.judge(1, 0), 0);
        Due.due("one is left", x.judge(2, 0), 2);
        Due.due("the third one is elsewhere", x.judge(3, Due.cut(0, 1, 0)), 2);
        Due.due("none beside", x.judge(4, 0), 2);
        Due.due("to stay together is not to hang together", x.judge(5, 0), 2);
        int[] chain = {0, 8, 1, 7, 2, 6, 3, 5, 4};
        for (int broken = 0; broken <= 8; broken++) {
            StringBuilder text = new StringBuilder("9/1");
            for (int i = 0; i < 8; i++) {
                text.append(i == broken ? "" : ";" + chain[i] + "-" + chain[i + 1]);
            }
            Due.due("a chain without link " + broken, Due.lands(text.toString()).judge(0, 0), broken == 8 ? 0 : 2);
        }
    }

    static void lawfulWithHeadsWithinTheEnds() {
        Due.says(0, "have HEADS within the ends,");
        TwoPencils x = Due.lands("2/1;0-1;<7;>5", "2/2;<0", "2/1;0-1;<5;>6", "2/2;>1;0:1,0;1:1,0");
        int[] heads = {4, 5, 6, 7, 8};
        for (int h : heads) {
            x.vote(0, 0, 0, 4);
            x.vote(0, 1, 2, h - 4);
            Due.due(h + " heads", x.judge(0, 0), h < 5 || h > 7 ? 3 : 0);
            Due.due("cuts with " + h + " heads", x.all(0, -1), h < 5 || h > 7 ? 0 : 1);
        }
        Due.due("none at most, and none", x.judge(1, 1), 0);
        x.vote(1, 1, 1, 1);
        Due.due("none at most, and one", x.judge(1, 1), 3);
        x.vote(2, 0, 0, 5);
        Due.due("at least 6, at most 5", x.judge(2, 0), 3);
        x.vote(2, 0, 0, 6);
        Due.due("at least 6, at most 5", x.judge(2, 0), 3);
        Due.due("each seat has its own heads", x.judge(3, 1), 0);
        x.vote(3, 1, 0, 0);
        Due.due("each seat has its own heads", x.judge(3, 1), 3);
    }

    static void lawfulWithAllThatStay() {
        Due.says(0, "and with each all that must STAY with it.");
        TwoPencils x = Due.lands(BARE_ROW + ";0=1;1=2", BARE_ROW + ";0=3;3=1", BARE_ROW + ";3=2");
        Due.due("all three are there", x.judge(0, 1), 0);
        Due.due("one is elsewhere", x.judge(0, 5), 4);
        Due.due("two are elsewhere", x.judge(0, 21), 4);
        Due.due("lawful cuts", x.all(0, -1), 1);
        Due.due("0 and 1 stay by 3", x.judge(1, 5), 4);
        Due.due("no cut", x.all(1, -1), 0);
        Due.due("of the second seat", x.judge(2, 1), 4);
        Due.due("the first seat has none that stays", x.judge(2, 5), 0);
    }

    static void wonByTheMostVotes() {
        Due.says(0, "WON is a SEAT by the party with the most VOTES in it;");
        TwoPencils x = Due.lands("3/1;0-1;1-2;0:2,1,1;1:2,1,1;2:0,3,1", "2/1;0-1;0:0,98,99;1:99,98,99", "2/1;0-1;0:0,0,1");
        Due.due("B has 5, A 4, C 3: not the most parishes", x.won(0, 0, 0), 1);
        Due.due("C has 198", x.won(1, 0, 0), 2);
        Due.due("one vote in all", x.won(2, 0, 0), 2);
        x.vote(0, 0, 0, 4);
        Due.due("A has 6, B 5", x.won(0, 0, 0), 0);
        Due.due("two behind the most are alike", Due.lands("2/1;0-1;0:3,2,2").won(0, 0, 0), 0);
    }

    static void wonByNobody() {
        Due.says(0, "by nobody, if two have most (or none has any).");
        String[] votes = {"5,5,0", "5,0,5", "0,5,5", "5,5,5", "5,5,4", "5,4,5", "4,5,5", "0,0,0", "1,1"};
        for (String v : votes) {
            TwoPencils x = Due.lands("2/1;0-1;1:" + v);
            Due.due("won with " + v, x.won(0, 0, 0), 3);
            for (int party = 0; party < 3; party++) {
                Due.due("seats of " + party, x.seats(0, 0, party), 0);
                x.vote(0, 0, party, 6);
                Due.due("won by six more", x.won(0, 0, 0), party);
                x.vote(0, 0, party, 0);
            }
        }
        Due.due("none is told at all", Due.lands("2/1;0-1").won(0, 0, 0), 3);
    }

    static void seatsAreNumberedByTheirLowest() {
        Due.says(0, "A CUT of some PARISHES into m SEATS tells for each its SEAT; SEATS are numbered from 0 on by their lowest PARISHES.");
        TwoPencils x = Due.lands(complete(4, 3));
        Due.due("0102", x.judge(0, Due.cut(0, 1, 0, 2)), 0);
        Due.due("0201", x.judge(0, Due.cut(0, 2, 0, 1)), 1);
        Due.due("1002", x.judge(0, Due.cut(1, 0, 0, 2)), 1);
        Due.due("2010", x.judge(0, Due.cut(2, 0, 1, 0)), 1);
        Due.due("0012", x.judge(0, Due.cut(0, 0, 1, 2)), 0);
        Due.due("0021", x.judge(0, Due.cut(0, 0, 2, 1)), 1);
        Due.due("1230, from 1 on", x.judge(0, Due.cut(1, 2, 3, 1)), 1);
    }

    static void cutsAsNumbers() {
        Due.says(0, "As a number: digits to the base 4, a digit for each PARISH of the LAND, PARISH 0 the highest");
        TwoPencils x = Due.lands(complete(9, 4));
        int[] parishOf = {0, 4, 6, 8};
        for (int s = 0; s < 4; s++) {
            x.vote(0, parishOf[s], s % 3, 1);
        }
        int cut = Due.cut(0, 0, 0, 0, 1, 1, 2, 2, 3);
        Due.due("000011223", cut, 64 + 256 + 8 + 32 + 3);
        for (int s = 0; s < 4; s++) {
            Due.due("won(0, 000011223, " + s + ")", x.won(0, cut, s), s % 3);
        }
        Due.due("the first of all", x.all(0, 0), Due.cut(0, 0, 0, 0, 0, 0, 1, 2, 3));
        Due.due("the last of all", x.all(0, 7769), Due.cut(0, 1, 2, 3, 3, 3, 3, 3, 3));
    }

    static void lawfulCuts() {
        Due.says(0, "LAWFUL: just m SEATS, numbered so, all of them LAWFUL.");
        String[] lands = {"4/1;0-1;1-2;2-3;3-0", "4/2;0-1;1-2;2-3;3-0", "4/3;0-1;1-2;2-3;3-0", "4/4;0-1;1-2;2-3;3-0", STRICT, ROW};
        int[] many = {1, 6, 4, 1, 1, 3};
        for (int l = 0; l < lands.length; l++) {
            TwoPencils x = Due.lands(lands[l]);
            Due.due("how many of " + lands[l], x.all(0, -1), many[l]);
            int found = 0;
            for (int cut = 0; cut < 256; cut++) {
                if (x.judge(0, cut) == 0) {
                    Due.due("all(0, " + found + ")", x.all(0, found), cut);
                    found++;
                }
            }
            Due.due("judged 0", found, many[l]);
        }
    }

    static void cutsInOrder() {
        Due.says(0, "CUTS are in the order of their numbers.");
        TwoPencils x = Due.lands(complete(7, 4));
        int many = x.all(0, -1);
        Due.due("ways to sort seven into four", many, 350);
        int before = -1;
        for (int i = 0; i < many; i++) {
            int cut = x.all(0, i);
            Due.due("all(0, " + i + ") is greater than the one before", cut > before, true);
            before = cut;
        }
    }

    static void judgedOfNumberOfSeats() {
        Due.says(0, "JUDGED is a CUT of a whole LAND: 1: it has not as many SEATS as the LAND, or they are not numbered so;");
        int[][] one = {{0, 0, 0, 0}, {0, 0, 1, 2}, {0, 1, 2, 3}, {0, 0, 0, 2}, {0, 2, 2, 2}, {0, 0, 3, 3}, {1, 0, 0, 0}, {1, 1, 1, 0},
            {1, 1, 1, 1}, {3, 3, 3, 3}, {1, 2, 2, 2}};
        TwoPencils x = Due.lands(BARE_ROW, "4/4", "4/1", STRICT);
        for (int[] digits : one) {
            Due.due("judge(0, " + Due.cut(digits) + ")", x.judge(0, Due.cut(digits)), 1);
            Due.due("it is so before all other ones", x.judge(3, Due.cut(digits)), 1);
        }
        Due.due("0123 into four", x.judge(1, Due.cut(0, 1, 2, 3)), 0);
        Due.due("0122 into four", x.judge(1, Due.cut(0, 1, 2, 2)), 1);
        Due.due("0132 into four", x.judge(1, Due.cut(0, 1, 3, 2)), 1);
        Due.due("0000 into one", x.judge(2, 0), 2);
        Due.due("0001 into one", x.judge(2, 1), 1);
    }

    static void judgedSeatsRising() {
        Due.says(0, "else of its SEATS rising, of the first that is not LAWFUL: 2 it does not hang together, 3 HEADS, 4 one that must STAY is elsewhere");
        TwoPencils x = Due.lands("5/2;0-1;2-3;1=2", "4/2;0-1;>1", "4/2;0-1;2-3;>1;0:1,0", "4/2;0-1;0:1,0", "4/2;0-1;2-3;0:1,0;<1", "6/4;5-4;0:1,0;1:1,0;2:1,0;>1");
        Due.due("the first: stay, the second: torn", x.judge(0, Due.cut(0, 0, 1, 1, 1)), 4);
        Due.due("the first: heads, the second: torn", x.judge(1, Due.cut(0, 0, 1, 1)), 3);
        Due.due("the second: heads", x.judge(2, Due.cut(0, 0, 1, 1)), 3);
        Due.due("the second: torn", x.judge(3, Due.cut(0, 0, 1, 1)), 2);
        Due.due("lawful", x.judge(4, Due.cut(0, 0, 1, 1)), 0);
        Due.due("the fourth: torn", x.judge(5, Due.cut(0, 1, 2, 3, 3, 3)), 2);
        Due.due("the third: torn, the fourth: heads", x.judge(5, Due.cut(0, 1, 2, 2, 3, 3)), 2);
        x.vote(5, 3, 1, 1);
        Due.due("the fourth: heads", x.judge(5, Due.cut(0, 1, 2, 3, 3, 3)), 2);
        TwoPencils y = Due.lands("6/3;2-3;3-4;5-0;0=5");
        Due.due("0 and 5 are parted", y.judge(0, Due.cut(0, 1, 2, 2, 2, 2)), 4);
        Due.due("the third one is torn", y.judge(0, Due.cut(0, 1, 2, 2, 1, 0)), 2);
        Due.due("the third one is lawful", y.judge(0, Due.cut(0, 1, 2, 2, 2, 0)), 0);
    }

    static void judgedByTheFirstThatIsSo() {
        Due.says(0, "(the first of these that is so); else 0.");
        Due.due("torn and heads", Due.lands("2/1;>1").judge(0, 0), 2);
        Due.due("torn and heads", Due.lands("2/1;0:9,0;<8").judge(0, 0), 2);
        Due.due("heads and stay", Due.lands("2/2;>1;0=1").judge(0, 1), 3);
        Due.due("torn and stay", Due.lands("3/2;0=1;1-2").judge(0, Due.cut(0, 1, 0)), 2);
        Due.due("all three", Due.lands("3/2;0=1;1-2;>1").judge(0, Due.cut(0, 1, 0)), 2);
        Due.due("none of these", Due.lands("3/2;0=1;0-1").judge(0, Due.cut(0, 0, 1)), 0);
    }

    // ---- terms: what a cut is worth ----

    static void alone() {
        Due.says(0, "ALONE: of a party: the most SEATS that it WINS in LAWFUL CUTS, the fewest, by which CUT first.");
        TwoPencils x = Due.lands(ROW, "4/4;0:1,0;1:1,0;2:1,0;3:1,0", STRICT);
        alone(x, 0, 0, 2, 1, 5);
        alone(x, 0, 1, 0, 0, 1);
        alone(x, 0, 2, 0, 0, 1);
        alone(x, 1, 0, 4, 4, 27);
        alone(x, 1, 1, 0, 0, 27);
        // 21 is the only lawful cut: A wins {0}, B {1, 2, 3}.
        alone(x, 2, 0, 1, 1, 21);
        alone(x, 2, 1, 1, 1, 21);
    }

    private static void alone(TwoPencils x, int land, int party, int most, int fewest, int first) {
        int[] want = {most, fewest, first};
        for (int what = 0; what < 3; what++) {
            Due.due("alone(" + land + ", " + party + ", " + what + ")", x.alone(land, party, what), want[what]);
        }
    }

    static void luck() {
        Due.says(0, "LUCK of a CUT: in how many LAWFUL CUTS the party WINS more, in how many fewer.");
        TwoPencils x = Due.lands(ROW, BARE_ROW, "4/4;0:1,0;1:1,0;2:1,0;3:1,0");
        int[][] luck = {{1, 2, 0}, {5, 0, 1}, {21, 0, 1}};
        for (int[] row : luck) {
            Due.due("more than by " + row[0], x.luck(0, row[0], 0, 0), row[1]);
            Due.due("fewer than by " + row[0], x.luck(0, row[0], 0, 1), row[2]);
            Due.due("as many are neither", x.luck(0, row[0], 1, 0) + x.luck(0, row[0], 1, 1), 0);
            Due.due("without votes", x.luck(1, row[0], 0, 0) + x.luck(1, row[0], 2, 1), 0);
        }
        Due.due("all four, no other cut", x.luck(2, 27, 0, 0) + x.luck(2, 27, 0, 1), 0);
        // All 7770 cuts are lawful, and A wins the seat that 8 is in, whichever that is.
        TwoPencils y = Due.lands(complete(9, 4) + ";8:1,0");
        int last = Due.cut(0, 1, 2, 3, 3, 3, 3, 3, 3);
        Due.due("none wins more", y.luck(0, last, 0, 0) + y.luck(0, last, 0, 1), 0);
        y.vote(0, 7, 1, 1);
        // 7 and 8 are together in 1701 cuts, the last one too, and nobody wins there; else A and B win one each.
        for (int party = 0; party < 2; party++) {
            Due.due("fewer than by the last", y.luck(0, last, party, 1), 0);
            Due.due("more than by the last", y.luck(0, last, party, 0), 7770 - 1701);
        }
    }

    static void far() {
        Due.says(0, "FAR of a CUT for a party: the distance of its share of SEATS from its share of all VOTES, as a fraction without a common part");
        TwoPencils x = Due.lands(ROW, "2/2;0:1,0;1:0,0,3", "2/1;0-1;0:7,0", "2/1;0-1;0:2,1");
        far(x, 0, 5, 0, 9, 23);
        far(x, 0, 1, 0, 5, 46);
        far(x, 0, 5, 1, 8, 23);
        far(x, 1, 1, 0, 1, 4);
        far(x, 1, 1, 1, 0, 1);
        far(x, 1, 1, 2, 1, 4);
        far(x, 2, 0, 0, 0, 1);
        far(x, 3, 0, 0, 1, 3);
        far(x, 3, 0, 1, 1, 3);
        TwoPencils y = Due.lands(complete(9, 4));
        for (int p = 0; p < 9; p++) {
            for (int party = 0; party < 3; party++) {
                y.vote(0, p, party, 99);
            }
        }
        far(y, 0, y.all(0, 0), 0, 1, 3);
        y.vote(0, 8, 0, 98);
        y.vote(0, 8, 1, 98);
        // C wins the seat of 8 alone: 1/4 of the seats, 891 of 2671 votes.
        far(y, 0, Due.cut(0, 0, 0, 1, 1, 1, 2, 2, 3), 2, 4 * 891 - 2671, 4 * 2671);
    }

    private static void far(TwoPencils x, int land, int cut, int party, int upper, int lower) {
        String call = "far(" + land + ", " + cut + ", " + party + ", ";
        Due.due(call + "0)", x.far(land, cut, party, 0), upper);
        Due.due(call + "1)", x.far(land, cut, party, 1), lower);
    }

    static void farWithoutVotes() {
        Due.says(0, "(0 by 1 without VOTES at all).");
        TwoPencils x = Due.lands(BARE_ROW, "2/2");
        for (int party = 0; party < 3; party++) {
            far(x, 0, 5, party, 0, 1);
            far(x, 1, 1, party, 0, 1);
        }
        x.vote(1, 1, 1, 1);
        far(x, 1, 1, 1, 1, 2);
        far(x, 1, 1, 0, 0, 1);
    }

    static void apart() {
        Due.says(0, "APART are two CUTS of a LAND by the fewest PARISHES that are elsewhere, SEATS being paired with SEATS in the best way.");
        TwoPencils x = Due.lands("5/2", "6/4", "9/4", "2/1", "9/3");
        apart(x, 0, Due.cut(0, 0, 0, 0, 1), Due.cut(0, 1, 1, 1, 1), 2);
        apart(x, 0, Due.cut(0, 0, 0, 0, 1), Due.cut(0, 0, 0, 1, 1), 1);
        apart(x, 0, Due.cut(0, 1, 0, 1, 0), Due.cut(0, 1, 0, 1, 0), 0);
        apart(x, 1, Due.cut(0, 0, 0, 1, 2, 3), Due.cut(0, 1, 2, 3, 3, 3), 4);
        // Each seat of the one is best paired with the one behind it.
        apart(x, 2, Due.cut(0, 1, 1, 2, 2, 3, 3, 3, 0), Due.cut(0, 0, 0, 1, 1, 2, 2, 2, 3), 1);
        apart(x, 3, 0, 0, 0);
        // Three by three: each seat of the one has one parish of each seat of the other.
        apart(x, 4, Due.cut(0, 0, 0, 1, 1, 1, 2, 2, 2), Due.cut(0, 1, 2, 0, 1, 2, 0, 1, 2), 6);
    }

    private static void apart(TwoPencils x, int land, int one, int other, int want) {
        Due.due("apart(" + land + ", " + one + ", " + other + ")", x.apart(land, one, other), want);
        Due.due("apart(" + land + ", " + other + ", " + one + ")", x.apart(land, other, one), want);
    }

    static void neighbours() {
        Due.says(0, "NEIGHBOURS: LAWFUL CUTS that are one apart.");
        // 5 is not settled, for 1. In the second land 1 is no lawful cut, in the third 5 is none: 1 and 21 are two apart.
        TwoPencils x = Due.lands(ROW, ROW + ";>7", ROW + ";1=2");
        Due.due("settled(0, 5)", x.settled(0, 5), 0);
        Due.due("judge(1, 1)", x.judge(1, 1), 3);
        Due.due("settled(1, 5): its neighbour is not lawful", x.settled(1, 5), 1);
        Due.due("all(2, NONE)", x.all(2, -1), 2);
        Due.due("apart(2, 1, 21)", x.apart(2, 1, 21), 2);
        Due.due("settled(2, 1): two apart is no neighbour", x.settled(2, 1), 1);
        Due.due("settled(2, 21)", x.settled(2, 21), 1);
    }

    static void balance() {
        Due.says(0, "BALANCE: SEATS WON by A less those by B.");
        // 001: C, C, 011: nobody, C. 001: nobody twice, 011: A, B. 001: A, A, 011: A, B.
        TwoPencils x = Due.lands("3/2;0-1;1-2;1:0,0,1;2:0,0,1", "3/2;0-1;1-2;0:1,0;1:0,1", "3/2;0-1;1-2;0:9,0;1:0,5;2:1,0", "3/2;0-1;1-2;0:0,9;1:5,0;2:0,1");
        Due.due("seats of C differ", x.seats(0, 1, 2) - x.seats(0, 5, 2), 1);
        Due.due("C is nothing to it", x.settled(0, 1), 1);
        Due.due("A wins one more in 011", x.seats(1, 5, 0), 1);
        Due.due("B does too", x.settled(1, 1), 1);
        Due.due("settled(2, 1)", x.settled(2, 1), 0);
        Due.due("settled(2, 5)", x.settled(2, 5), 0);
        Due.due("settled(3, 1)", x.settled(3, 1), 0);
        Due.due("settled(3, 5)", x.settled(3, 5), 0);
    }

    /** All ways to give three parishes some votes: all lawful cuts of the line are neighbours, and so are those of the triangle. */
    static void balanceOfAllVotes() {
        Due.says(0, "BALANCE: SEATS WON by A less those by B.");
        int[][] votes = {{0, 0, 0}, {1, 0, 0}, {0, 1, 0}, {2, 1, 0}, {1, 2, 0}, {0, 0, 1}, {1, 1, 1}};
        for (int i = 0; i < 343; i++) {
            int[][] of = {votes[i % 7], votes[i / 7 % 7], votes[i / 49]};
            StringBuilder text = new StringBuilder();
            for (int p = 0; p < 3; p++) {
                text.append(";" + p + ":" + of[p][0] + "," + of[p][1] + "," + of[p][2]);
            }
            TwoPencils x = Due.lands("3/2;0-1;1-2" + text, "3/2;0-1;1-2;2-0" + text);
            int ofLine = balanceOf(of, 3) == balanceOf(of, 1) ? 1 : 0;
            int ofTriangle = ofLine == 1 && balanceOf(of, 5) == balanceOf(of, 1) ? 1 : 0;
            Due.due("001 in a line, with" + text, x.settled(0, 1), ofLine);
            Due.due("011 in a line, with" + text, x.settled(0, 5), ofLine);
            Due.due("001 in a triangle, with" + text, x.settled(1, 1), ofTriangle);
            Due.due("010 in a triangle, with" + text, x.settled(1, 4), ofTriangle);
            Due.due("011 in a triangle, with" + text, x.settled(1, 5), ofTriangle);
        }
    }

    /** Of three parishes in two seats, one of them as bits. */
    private static int balanceOf(int[][] votes, int seat) {
        int balance = 0;
        for (int s = 0; s < 2; s++) {
            int[] sum = new int[3];
            for (int p = 0; p < 3; p++) {
                for (int party = 0; party < 3; party++) {
                    sum[party] += (seat >> p & 1) == s ? votes[p][party] : 0;
                }
            }
            balance += sum[0] > sum[1] && sum[0] > sum[2] ? 1 : sum[1] > sum[0] && sum[1] > sum[2] ? -1 : 0;
        }
        return balance;
    }

    static void neighbourByParish0() {
        Due.says(0, "NEIGHBOURS: LAWFUL CUTS that are one apart.");
        // {0} alone has too few heads: there are but {0,1},{2} and {0,2},{1}. B and A win the one, A twice the other.
        TwoPencils x = Due.lands(complete(3, 2) + ";>3;0:0,2;1:2,1;2:3,0");
        Due.due("all(0, NONE)", x.all(0, -1), 2);
        Due.due("settled(0, 001)", x.settled(0, 1), 0);
        Due.due("settled(0, 010)", x.settled(0, 4), 0);
        Due.due("near(0, 001)", x.near(0, 1), -1);
        x.vote(0, 0, 1, 0);
        x.vote(0, 0, 0, 2);
        Due.due("settled(0, 001)", x.settled(0, 1), 1);
    }

    static void settled() {
        Due.says(0, "SETTLED is a LAWFUL CUT of whose NEIGHBOURS none has another BALANCE.");
        TwoPencils x = Due.lands(ROW, BARE_ROW, "4/4;0:1,0", "2/1;0-1;0:1,0");
        Due.due("one of one", x.settled(0, 1), 0);
        Due.due("one of two", x.settled(0, 5), 0);
        Due.due("none of one", x.settled(0, 21), 1);
        Due.due("without votes", x.settled(1, 1) + x.settled(1, 5) + x.settled(1, 21), 3);
        Due.due("without a neighbour", x.settled(2, 27), 1);
        Due.due("one seat", x.settled(3, 0), 1);
        // One that has more seats of A and one that has fewer, both are another balance.
        TwoPencils y = Due.lands("4/2;0-1;1-2;2-3;0:1,0;1:0,2;2:0,2;3:1,0");
        Due.due("012|3: B, A", y.seats(0, 1, 0) - y.seats(0, 1, 1), 0);
        Due.due("01|23: B, B", y.seats(0, 5, 0) - y.seats(0, 5, 1), -2);
        Due.due("settled", y.settled(0, 1) + y.settled(0, 5) + y.settled(0, 21), 0);
    }

    static void near() {
        Due.says(0, "NEAR to a CUT: of SETTLED CUTS that with the fewest PARISHES apart; of several the first.");
        TwoPencils x = Due.lands(ROW, BARE_ROW);
        Due.due("the only one, two apart", x.near(0, 1), 21);
        Due.due("the only one, one apart", x.near(0, 5), 21);
        Due.due("itself", x.near(0, 21), 21);
        for (int cut : new int[] {1, 5, 21}) {
            Due.due("itself", x.near(1, cut), cut);
        }
        Due.due("1 and 21 are one apart from 0101", x.near(1, 17), 1);
        Due.due("1 and 21 are one apart from 0110", x.near(1, 20), 1);
        Due.due("5 alone is one apart from 0100", x.near(1, 16), 5);
    }

    static void nearOfSeveralFartherOnes() {
        Due.says(0, "of several the first.");
        // A ring. 0001, 0100, 0011 and 0110 have a balance of -2, 0010 and 0111 of -1: these and their neighbours are not settled.
        TwoPencils x = Due.lands("4/2;0-1;1-2;2-3;3-0;1:0,1;3:1,2");
        int[] cuts = {1, 4, 5, 16, 20, 21};
        int[] settled = {1, 0, 0, 1, 0, 0};
        for (int i = 0; i < 6; i++) {
            Due.due("settled(0, " + cuts[i] + ")", x.settled(0, cuts[i]), settled[i]);
        }
        for (int other : new int[] {4, 21}) {
            Due.due("apart from 0001", x.apart(0, other, 1), 2);
            Due.due("apart from 0100", x.apart(0, other, 16), 2);
            Due.due("the first of both", x.near(0, other), 1);
        }
    }

    // ---- terms: walks ----

    static void walkSteps() {
        Due.says(0, "WALK from a LAWFUL CUT by a seed, so many steps (0 .. 500):");
        TwoPencils x = Due.lands(complete(5, 3), ROW, "2/1;0-1");
        int from = Due.cut(0, 0, 1, 1, 2);
        int[] steps = {0, 1, 2, 250, 499, 500};
        for (int n : steps) {
            Due.due("walk of " + n, x.walk(0, from, 11L, n), walked(from, 5, 3, 11L, n));
        }
        Due.due("walk of -1", x.walk(0, from, 11L, -1), -1);
        Due.due("walk of 501", x.walk(0, from, 11L, 501), -1);
        Due.due("one seat", x.walk(2, 0, 11L, 500), 0);
        for (int n = 0; n <= 500; n += 50) {
            int to = x.walk(1, 5, 4L, n);
            Due.due("it is lawful", x.judge(1, to), 0);
        }
    }

    static void walkGoesRound() {
        Due.says(0, "in each x, at first the seed, becomes x times 6364136223846793005 and 1442695040888963407 (64 bits, going round);");
        TwoPencils x = Due.lands(complete(5, 3));
        int from = Due.cut(0, 1, 2, 2, 2);
        long[] seeds = {0, 1, -1, 2, Long.MAX_VALUE, Long.MIN_VALUE, 1L << 32, 1L << 33, -1442695040888963407L, 6364136223846793005L};
        for (long seed : seeds) {
            for (int n = 0; n < 12; n++) {
                Due.due("walk by " + seed + " of " + n, x.walk(0, from, seed, n), walked(from, 5, 3, seed, n));
            }
        }
    }

    static void walkWithoutSign() {
        Due.says(0, "y is x shifted right by 33 (without sign):");
        TwoPencils x = Due.lands(complete(9, 4));
        int from = Due.cut(0, 1, 2, 3, 0, 1, 2, 3, 3);
        int negative = 0;
        for (long seed = 0; seed < 200; seed++) {
            negative += seed * 6364136223846793005L + 1442695040888963407L < 0 ? 1 : 0;
            Due.due("walk by " + seed, x.walk(0, from, seed, 1), walked(from, 9, 4, seed, 1));
        }
        Due.due("many are below zero", negative > 50, true);
    }

    /** From {0,1},{2}: what comes if a parish goes to a seat. */
    static void walkOfOneParish() {
        Due.says(0, "PARISH y modulo PARISHES goes to SEAT (y by PARISHES) modulo SEATS (as numbered then), if what comes is LAWFUL");
        int from = Due.cut(0, 0, 1);
        int[][] to = {{from, Due.cut(0, 1, 0)}, {from, Due.cut(0, 1, 1)}, {from, from}};
        TwoPencils x = Due.lands(complete(3, 2));
        for (int p = 0; p < 3; p++) {
            for (int s = 0; s < 2; s++) {
                Due.due(p + " goes to " + s, x.walk(0, from, seedFor(p, s, 3, 2), 1), to[p][s]);
            }
        }
    }

    static void walkNumbersAnew() {
        Due.says(0, "(its SEATS are numbered anew then);");
        TwoPencils x = Due.lands(complete(4, 3));
        // {0,3},{1},{2}: 0 goes to 2's seat, then seats are {0,2},{1},{3}; a step that takes 1 as seat 1 empties nothing.
        int from = Due.cut(0, 1, 2, 0);
        Due.due("0 to 2", x.walk(0, from, seedFor(0, 2, 4, 3), 1), Due.cut(0, 1, 0, 2));
        Due.due("0 to 1", x.walk(0, from, seedFor(0, 1, 4, 3), 1), Due.cut(0, 0, 1, 2));
        Due.due("3 to 2", x.walk(0, from, seedFor(3, 2, 4, 3), 1), Due.cut(0, 1, 2, 2));
        for (long seed = 0; seed < 100; seed++) {
            Due.due("two steps by " + seed, x.walk(0, from, seed, 2), walked(from, 4, 3, seed, 2));
        }
    }

    static void walkElseNothing() {
        Due.says(0, "else nothing.");
        TwoPencils x = Due.lands(ROW, ROW + ";>7", "4/4");
        Due.due("3 can not leave its seat empty", x.walk(0, 1, seedFor(3, 0, 4, 2), 1), 1);
        Due.due("0 would be torn from 1", x.walk(0, 5, seedFor(0, 1, 4, 2), 1), 5);
        Due.due("3 would be torn from 2", x.walk(0, 5, seedFor(3, 0, 4, 2), 1), 5);
        Due.due("2 goes", x.walk(0, 5, seedFor(2, 0, 4, 2), 1), 1);
        Due.due("2 does not: too few heads stay", x.walk(1, 5, seedFor(2, 0, 4, 2), 1), 5);
        Due.due("none can go", x.walk(2, 27, 3L, 500), 27);
        Due.due("the cut of the land stays", x.walk(0, 5, 9L, 500) == x.walk(0, 5, 9L, 500), true);
    }

    /** A seed by whose first step parish p goes to seat s. */
    private static long seedFor(int p, int s, int parishes, int seats) {
        for (long seed = 0; seed < 10000; seed++) {
            long y = next(BigInteger.valueOf(seed)).shiftRight(33).longValue();
            if (y % parishes == p && y / parishes % seats == s) {
                return seed;
            }
        }
        return -1;
    }

    private static BigInteger next(BigInteger x) {
        BigInteger all = BigInteger.ONE.shiftLeft(64);
        return x.multiply(new BigInteger("6364136223846793005")).add(new BigInteger("1442695040888963407")).mod(all);
    }

    /** In a land where all are beside all, and nothing else is asked for, a cut is lawful if no seat is empty. */
    private static int walked(int from, int parishes, int seats, long seed, int steps) {
        int[] seat = new int[parishes];
        for (int p = 0; p < parishes; p++) {
            seat[p] = from >> 2 * (parishes - 1 - p) & 3;
        }
        BigInteger x = BigInteger.valueOf(seed);
        for (int i = 0; i < steps; i++) {
            x = next(x);
            long y = x.shiftRight(33).longValue();
            int[] then = seat.clone();
            then[(int) (y % parishes)] = (int) (y / parishes % seats);
            List<Integer> names = new ArrayList<>();
            for (int s : then) {
                if (!names.contains(s)) {
                    names.add(s);
                }
            }
            if (names.size() == seats) {
                for (int p = 0; p < parishes; p++) {
                    seat[p] = names.indexOf(then[p]);
                }
            }
        }
        return Due.cut(seat);
    }

    // ---- promises 9 to 20 ----

    static void votesChangeWhatIsLawful() {
        Due.says(9, "in a PARISH from now on.");
        TwoPencils x = Due.lands(ROW + ";<16", "2/1");
        // Heads: 012|3 has 17 and 6, 01|23 11 and 12, 0|123 6 and 17.
        Due.due("all(0, NONE)", x.all(0, -1), 1);
        Due.due("alone(0, 0, 2)", x.alone(0, 0, 2), 5);
        Due.due("near(0, 1)", x.near(0, 1), 5);
        x.vote(0, 2, 0, 0);
        x.vote(0, 2, 1, 0);
        Due.due("all(0, NONE)", x.all(0, -1), 3);
        Due.due("all(0, 0)", x.all(0, 0), 1);
        Due.due("luck of 012|3: A, A as all", x.luck(0, 1, 0, 0), 0);
        x.vote(0, 1, 1, 6);
        // 012|3: B 7, A 6 - A; 01|23: B - A; 0|123: A - A 7, B 6.
        Due.due("luck of 012|3", x.luck(0, 1, 0, 0), 1);
        Due.due("settled(0, 5)", x.settled(0, 5), 0);
        // 0|123 has too many heads now, and is in no roll any more.
        x.vote(0, 3, 1, 8);
        Due.due("all(0, NONE)", x.all(0, -1), 2);
        Due.due("fewer than by 012|3", x.luck(0, 1, 1, 1), 0);
        Due.due("alone(0, 1, 0)", x.alone(0, 1, 0), 2);
        x.vote(0, 0, 2, 99);
        Due.due("all(0, NONE)", x.all(0, -1), 0);
        Due.due("alone(0, 0, 0)", x.alone(0, 0, 0), -1);
        Due.due("judge(0, 5)", x.judge(0, 5), 3);
        Due.due("walk(0, 5, 1, 1)", x.walk(0, 5, 1L, 1), -1);
    }

    static void judge() {
        Due.says(10, "JUDGED.");
        TwoPencils x = Due.lands(STRICT);
        for (int i = 0; i < 5; i++) {
            Due.due("judge(0, " + STRICT_CUTS[i] + ")", x.judge(0, STRICT_CUTS[i]), STRICT_JUDGED[i]);
        }
    }

    static void judgeNoSuchLandOrNumber() {
        Due.says(10, "NONE: no such LAND, number (0 .. 4 to the PARISHES less 1).");
        for (int n = 2; n <= 9; n++) {
            TwoPencils x = Due.lands(complete(n, 1));
            Due.due("the first number", x.judge(0, 0), 0);
            Due.due("before it", x.judge(0, -1), -1);
            Due.due("the last number", x.judge(0, numbers(n) - 1), 1);
            Due.due("behind it", x.judge(0, numbers(n)), -1);
            Due.due("behind it, with a lawful cut's digits", x.judge(0, 4 * numbers(n)), -1);
            Due.due("land 1", x.judge(1, 0), -1);
            Due.due("land -1", x.judge(-1, 0), -1);
            for (int far : Due.FAR_OUT) {
                Due.due("judge(0, " + far + ")", x.judge(0, far), -1);
                Due.due("judge(" + far + ", 0)", x.judge(far, 0), -1);
            }
        }
    }

    static void won() {
        Due.says(11, "Who WINS a SEAT of a CUT (0 .. 2; 3 nobody).");
        TwoPencils x = Due.lands("4/4;0:1,0;1:0,1;2:0,0,1");
        for (int s = 0; s < 4; s++) {
            Due.due("won(0, 27, " + s + ")", x.won(0, 27, s), s);
        }
    }

    static void wonNoSuch() {
        Due.says(11, "NONE: no such ones,");
        TwoPencils x = Due.lands("4/4;0:1,0", ROW, "2/1;0-1");
        Due.due("seat 4", x.won(0, 27, 4), -1);
        Due.due("seat 2 of two", x.won(1, 5, 2), -1);
        Due.due("seat 1 of one", x.won(2, 0, 1), -1);
        Due.due("seat -1", x.won(0, 27, -1), -1);
        Due.due("land 3", x.won(3, 0, 0), -1);
        Due.due("land -1", x.won(-1, 0, 0), -1);
        Due.due("cut 256", x.won(1, 256, 0), -1);
        Due.due("cut 261, a digit before 5", x.won(1, 261, 0), -1);
        Due.due("cut -1", x.won(1, -1, 0), -1);
        for (int n : Due.FAR_OUT) {
            Due.due("land " + n, x.won(n, 5, 0), -1);
            Due.due("cut " + n, x.won(1, n, 0), -1);
            Due.due("seat " + n, x.won(1, 5, n), -1);
        }
    }

    static void wonJudgedOtherwise() {
        Due.says(11, "JUDGED otherwise than 0.");
        TwoPencils x = Due.lands(STRICT);
        for (int i = 0; i < 5; i++) {
            Due.due("won(0, " + STRICT_CUTS[i] + ", 0)", x.won(0, STRICT_CUTS[i], 0), i == 0 ? 0 : -1);
            Due.due("won(0, " + STRICT_CUTS[i] + ", 1)", x.won(0, STRICT_CUTS[i], 1), i == 0 ? 1 : -1);
        }
    }

    static void seats() {
        Due.says(12, "SEATS that a party WINS in a CUT.");
        for (int won = 0; won <= 4; won++) {
            StringBuilder text = new StringBuilder("4/4");
            for (int p = 0; p < won; p++) {
                text.append(";" + p + ":0,1");
            }
            TwoPencils x = Due.lands(text.toString());
            Due.due("seats(0, 27, 0)", x.seats(0, 27, 0), 0);
            Due.due("seats(0, 27, 1)", x.seats(0, 27, 1), won);
            Due.due("seats(0, 27, 2)", x.seats(0, 27, 2), 0);
        }
    }

    static void seatsNoSuch() {
        Due.says(12, "NONE likewise.");
        TwoPencils x = Due.lands(STRICT);
        Due.due("party -1", x.seats(0, 21, -1), -1);
        Due.due("party 3", x.seats(0, 21, 3), -1);
        Due.due("land -1", x.seats(-1, 21, 0), -1);
        Due.due("land 1", x.seats(1, 21, 0), -1);
        Due.due("cut -1", x.seats(0, -1, 0), -1);
        Due.due("cut 256", x.seats(0, 256, 0), -1);
        for (int n : Due.FAR_OUT) {
            Due.due("party " + n, x.seats(0, 21, n), -1);
            Due.due("land " + n, x.seats(n, 21, 0), -1);
            Due.due("cut " + n, x.seats(0, n, 0), -1);
        }
        for (int i = 0; i < 5; i++) {
            Due.due("seats(0, " + STRICT_CUTS[i] + ", 0)", x.seats(0, STRICT_CUTS[i], 0), i == 0 ? 1 : -1);
        }
    }

    static void all() {
        Due.says(13, "LAWFUL CUTS: how many (i NONE), the i-th.");
        TwoPencils x = Due.lands(ROW, complete(9, 4), "9/4;0-1", "2/2", TORN);
        Due.due("all(0, NONE)", x.all(0, -1), 3);
        int[] cuts = {1, 5, 21};
        for (int i = 0; i < 3; i++) {
            Due.due("all(0, " + i + ")", x.all(0, i), cuts[i]);
        }
        Due.due("the most there can be", x.all(1, -1), 7770);
        Due.due("the last of these", x.all(1, 7769), Due.cut(0, 1, 2, 3, 3, 3, 3, 3, 3));
        Due.due("none of nine", x.all(2, -1), 0);
        Due.due("one", x.all(3, -1), 1);
        Due.due("that", x.all(3, 0), 1);
        Due.due("none", x.all(4, -1), 0);
    }

    static void allWithout() {
        Due.says(13, "NONE: without, no such LAND.");
        TwoPencils x = Due.lands(ROW, complete(9, 4), TORN);
        Due.due("all(0, 3)", x.all(0, 3), -1);
        Due.due("all(0, -2)", x.all(0, -2), -1);
        Due.due("all(1, 7770)", x.all(1, 7770), -1);
        Due.due("all(2, 0)", x.all(2, 0), -1);
        Due.due("all(3, NONE)", x.all(3, -1), -1);
        Due.due("all(-1, NONE)", x.all(-1, -1), -1);
        for (int n : Due.FAR_OUT) {
            Due.due("all(0, " + n + ")", x.all(0, n), -1);
            Due.due("all(" + n + ", 0)", x.all(n, 0), -1);
            Due.due("all(" + n + ", NONE)", x.all(n, -1), -1);
        }
    }

    static void aloneOfParties() {
        Due.says(14, "ALONE: 0 the most, 1 the fewest, 2 the first CUT with the most.");
        // 012|3: A and C win one; 01|23: A wins one, B and C have as many in the other; 0|123: A and B win one.
        TwoPencils x = Due.lands("4/2;0-1;1-2;2-3;0:3,0;1:0,1;2:1,1;3:1,2,3");
        alone(x, 0, 0, 1, 1, 1);
        alone(x, 0, 1, 1, 0, 21);
        alone(x, 0, 2, 1, 0, 1);
    }

    static void aloneWithoutACut() {
        Due.says(14, "NONE: there is no CUT,");
        TwoPencils x = Due.lands(TORN, BARE_ROW + ";>1", BARE_ROW + ";0=3");
        for (int l = 0; l < 3; l++) {
            for (int what = 0; what < 3; what++) {
                for (int party = 0; party < 3; party++) {
                    Due.due("alone(" + l + ", " + party + ", " + what + ")", x.alone(l, party, what), -1);
                }
            }
        }
    }

    static void aloneNoSuch() {
        Due.says(14, "no such ones.");
        TwoPencils x = Due.lands(ROW);
        Due.due("party -1", x.alone(0, -1, 0), -1);
        Due.due("party 3", x.alone(0, 3, 0), -1);
        Due.due("what -1", x.alone(0, 0, -1), -1);
        Due.due("what 3", x.alone(0, 0, 3), -1);
        Due.due("land -1", x.alone(-1, 0, 0), -1);
        Due.due("land 1", x.alone(1, 0, 0), -1);
        for (int n : Due.FAR_OUT) {
            Due.due("party " + n, x.alone(0, n, 0), -1);
            Due.due("what " + n, x.alone(0, 0, n), -1);
            Due.due("land " + n, x.alone(n, 0, 0), -1);
        }
    }

    static void luckMoreAndFewer() {
        Due.says(15, "LUCK: in how many more (0), fewer (1).");
        TwoPencils x = Due.lands("4/2;0-1;1-2;2-3;0:3,0;1:0,1;2:1,1;3:1,2,3");
        seatsAre(x, new int[][] {{1, 1, 0, 1}, {5, 1, 0, 0}, {21, 1, 1, 0}});
        int[][] luck = {{1, 1, 1, 0}, {5, 1, 1, 0}, {21, 1, 0, 2}, {1, 2, 0, 2}, {5, 2, 1, 0}, {21, 2, 1, 0}, {1, 0, 0, 0}};
        for (int[] row : luck) {
            Due.due("luck(0, " + row[0] + ", " + row[1] + ", 0)", x.luck(0, row[0], row[1], 0), row[2]);
            Due.due("luck(0, " + row[0] + ", " + row[1] + ", 1)", x.luck(0, row[0], row[1], 1), row[3]);
        }
    }

    /** Rows of a cut and the seats of A, B and C in it. */
    private static void seatsAre(TwoPencils x, int[][] rows) {
        for (int[] row : rows) {
            for (int party = 0; party < 3; party++) {
                Due.due("seats(0, " + row[0] + ", " + party + ")", x.seats(0, row[0], party), row[party + 1]);
            }
        }
    }

    static void luckNoSuch() {
        Due.says(15, "NONE: no such ones, JUDGED otherwise than 0.");
        TwoPencils x = Due.lands(STRICT);
        for (int i = 0; i < 5; i++) {
            Due.due("luck(0, " + STRICT_CUTS[i] + ", 0, 0)", x.luck(0, STRICT_CUTS[i], 0, 0), i == 0 ? 0 : -1);
            Due.due("luck(0, " + STRICT_CUTS[i] + ", 0, 1)", x.luck(0, STRICT_CUTS[i], 0, 1), i == 0 ? 0 : -1);
        }
        Due.due("what -1", x.luck(0, 21, 0, -1), -1);
        Due.due("what 2", x.luck(0, 21, 0, 2), -1);
        Due.due("party -1", x.luck(0, 21, -1, 0), -1);
        Due.due("party 3", x.luck(0, 21, 3, 0), -1);
        Due.due("land -1", x.luck(-1, 21, 0, 0), -1);
        Due.due("land 1", x.luck(1, 21, 0, 0), -1);
        Due.due("cut -1", x.luck(0, -1, 0, 0), -1);
        Due.due("cut 256", x.luck(0, 256, 0, 0), -1);
        for (int n : Due.FAR_OUT) {
            Due.due("what " + n, x.luck(0, 21, 0, n), -1);
            Due.due("party " + n, x.luck(0, 21, n, 0), -1);
            Due.due("land " + n, x.luck(n, 21, 0, 0), -1);
            Due.due("cut " + n, x.luck(0, n, 0, 0), -1);
        }
    }

    static void farOfAll() {
        Due.says(16, "FAR: the upper number (0), the lower one (1).");
        TwoPencils x = Due.lands("2/2;0:1,0;1:1,2");
        // A has 1/2 of the seats and 2/4 of the votes, so has B.
        far(x, 0, 1, 0, 0, 1);
        far(x, 0, 1, 1, 0, 1);
        x.vote(0, 1, 1, 4);
        far(x, 0, 1, 0, 1, 6);
        far(x, 0, 1, 1, 1, 6);
    }

    static void farNoSuch() {
        Due.says(16, "NONE likewise.");
        TwoPencils x = Due.lands(STRICT);
        far(x, 0, 21, 0, 2, 7);
        for (int i = 1; i < 5; i++) {
            far(x, 0, STRICT_CUTS[i], 0, -1, -1);
        }
        Due.due("what -1", x.far(0, 21, 0, -1), -1);
        Due.due("what 2", x.far(0, 21, 0, 2), -1);
        Due.due("party -1", x.far(0, 21, -1, 0), -1);
        Due.due("party 3", x.far(0, 21, 3, 0), -1);
        Due.due("land -1", x.far(-1, 21, 0, 0), -1);
        Due.due("land 1", x.far(1, 21, 0, 0), -1);
        Due.due("cut -1", x.far(0, -1, 0, 0), -1);
        Due.due("cut 256", x.far(0, 256, 0, 0), -1);
        for (int n : Due.FAR_OUT) {
            Due.due("what " + n, x.far(0, 21, 0, n), -1);
            Due.due("party " + n, x.far(0, 21, n, 0), -1);
            Due.due("land " + n, x.far(n, 21, 0, 0), -1);
            Due.due("cut " + n, x.far(0, n, 0, 0), -1);
        }
    }

    static void apartOfCuts() {
        Due.says(17, "APART.");
        TwoPencils x = Due.lands(STRICT);
        // Those that are judged 2, 3, 4 can be apart as well.
        int[][] rows = {{21, 17, 1}, {21, 1, 2}, {21, 5, 1}, {17, 1, 1}, {17, 5, 2}, {1, 5, 1}, {17, 17, 0}};
        for (int[] row : rows) {
            apart(x, 0, row[0], row[1], row[2]);
        }
    }

    static void apartNoSuch() {
        Due.says(17, "NONE: no such ones, JUDGED 1.");
        TwoPencils x = Due.lands(STRICT);
        for (int judged1 : new int[] {0, 2, 6, 64, 255}) {
            apart(x, 0, 21, judged1, -1);
            apart(x, 0, judged1, judged1, -1);
        }
        apart(x, 0, 21, 256, -1);
        apart(x, 0, 21, -1, -1);
        apart(x, 0, 21, 256 + 21, -1);
        Due.due("land -1", x.apart(-1, 21, 21), -1);
        Due.due("land 1", x.apart(1, 21, 21), -1);
        for (int n : Due.FAR_OUT) {
            apart(x, 0, 21, n, -1);
            Due.due("land " + n, x.apart(n, 21, 21), -1);
        }
    }

    static void settledTold() {
        Due.says(18, "SETTLED (1, 0).");
        TwoPencils x = Due.lands(ROW);
        Due.due("settled(0, 21)", x.settled(0, 21), 1);
        Due.due("settled(0, 1)", x.settled(0, 1), 0);
    }

    static void settledNoSuch() {
        Due.says(18, "NONE: no such ones, JUDGED otherwise than 0.");
        TwoPencils x = Due.lands(STRICT);
        for (int i = 0; i < 5; i++) {
            Due.due("settled(0, " + STRICT_CUTS[i] + ")", x.settled(0, STRICT_CUTS[i]), i == 0 ? 1 : -1);
        }
        Due.due("land -1", x.settled(-1, 21), -1);
        Due.due("land 1", x.settled(1, 21), -1);
        Due.due("cut -1", x.settled(0, -1), -1);
        Due.due("cut 256", x.settled(0, 256), -1);
        for (int n : Due.FAR_OUT) {
            Due.due("land " + n, x.settled(n, 21), -1);
            Due.due("cut " + n, x.settled(0, n), -1);
        }
    }

    static void nearTold() {
        Due.says(19, "NEAR.");
        TwoPencils x = Due.lands(STRICT);
        for (int i = 0; i < 5; i++) {
            Due.due("near(0, " + STRICT_CUTS[i] + ")", x.near(0, STRICT_CUTS[i]), i == 1 ? -1 : 21);
        }
    }

    static void nearThereIsNone() {
        Due.says(19, "NONE: there is none,");
        TwoPencils x = Due.lands("3/2;0-1;1-2;0:9,0;1:0,5;2:1,0", TORN, BARE_ROW + ";>1");
        Due.due("two cuts that differ", x.settled(0, 1) + x.settled(0, 5), 0);
        Due.due("near(0, 1)", x.near(0, 1), -1);
        Due.due("near(0, 5)", x.near(0, 5), -1);
        Due.due("near(0, 010)", x.near(0, Due.cut(0, 1, 0)), -1);
        Due.due("no lawful cut", x.near(1, 0), -1);
        Due.due("no lawful cut", x.near(2, 5), -1);
    }

    static void nearNoSuch() {
        Due.says(19, "no such ones, JUDGED 1.");
        TwoPencils x = Due.lands(STRICT);
        for (int judged1 : new int[] {0, 2, 6, 64, 255}) {
            Due.due("near(0, " + judged1 + ")", x.near(0, judged1), -1);
        }
        Due.due("land -1", x.near(-1, 21), -1);
        Due.due("land 1", x.near(1, 21), -1);
        Due.due("cut -1", x.near(0, -1), -1);
        Due.due("cut 256", x.near(0, 256), -1);
        for (int n : Due.FAR_OUT) {
            Due.due("land " + n, x.near(n, 21), -1);
            Due.due("cut " + n, x.near(0, n), -1);
        }
    }

    static void walkTold() {
        Due.says(20, "WALK: the CUT.");
        TwoPencils x = Due.lands(STRICT, complete(9, 4));
        Due.due("no step", x.walk(0, 21, 5L, 0), 21);
        Due.due("the only lawful one", x.walk(0, 21, 5L, 500), 21);
        int from = Due.cut(0, 1, 2, 3, 3, 3, 3, 3, 3);
        Due.due("all steps", x.walk(1, from, Long.MIN_VALUE, 500), walked(from, 9, 4, Long.MIN_VALUE, 500));
    }

    static void walkNoSuch() {
        Due.says(20, "NONE: no such ones, JUDGED otherwise than 0, steps.");
        TwoPencils x = Due.lands(STRICT);
        for (int i = 1; i < 5; i++) {
            Due.due("walk of 0 from " + STRICT_CUTS[i], x.walk(0, STRICT_CUTS[i], 5L, 0), -1);
            Due.due("walk of 1 from " + STRICT_CUTS[i], x.walk(0, STRICT_CUTS[i], 5L, 1), -1);
        }
        Due.due("500 steps", x.walk(0, 21, 5L, 500), 21);
        Due.due("501 steps", x.walk(0, 21, 5L, 501), -1);
        Due.due("-1 steps", x.walk(0, 21, 5L, -1), -1);
        Due.due("land -1", x.walk(-1, 21, 5L, 1), -1);
        Due.due("land 1", x.walk(1, 21, 5L, 1), -1);
        Due.due("cut -1", x.walk(0, -1, 5L, 1), -1);
        Due.due("cut 256", x.walk(0, 256, 5L, 1), -1);
        for (int n : Due.FAR_OUT) {
            Due.due("land " + n, x.walk(n, 21, 5L, 1), -1);
            Due.due("cut " + n, x.walk(0, n, 5L, 1), -1);
            Due.due("steps " + n, x.walk(0, 21, 5L, n), -1);
        }
    }
}
