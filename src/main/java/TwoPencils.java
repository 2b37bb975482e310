import java.util.Arrays;
import java.util.NoSuchElementException;

/** One map for two parties: lands cut into seats, and protocols by which two draw together. */
public final class TwoPencils {
    public static final int NONE = -1;
    public static final int HIDDEN = -100;

    private static final int LANDS = 6;
    private static final int PROTOCOLS = 8;
    private static final int GAMES = 8;
    private static final int ROUNDS = 6;
    private static final int PARISHES = 9;
    private static final int SEATS = 4;
    private static final int HALVES = 8;
    private static final int PARTIES = 3;
    private static final int NOBODY = 3;
    private static final int GOALS = 3;
    private static final int LONGEST_TAPE = 300;
    private static final int LONGEST_WALK = 500;
    private static final int MOST_VOTES = 99;
    private static final int MOST_HEADS = 999;

    // A digit to the base 4 has two bits, one to the base 8 has three.
    private static final int CUT_BITS = 2;
    private static final int HALVES_BITS = 3;

    // The phases of a game; a round bears the number of the phase that opens it.
    private static final int DRAW = 0;
    private static final int KEEP = 1;
    private static final int ALL_KEPT = 2;
    private static final int HALVE = 3;
    private static final int JOIN = 4;
    private static final int ONE_OF_TWO = 5;
    private static final int TWO_OF_TWO = 6;
    private static final int TAKE = 7;
    private static final int OVER = 8;
    private static final int BROKEN = 9;

    // What is kept of a protocol in a land: goals 0 to 2, goal 0 with places changed, the cut.
    private static final int CHANGED = 3;
    private static final int CUT_AT_END = 4;
    private static final int KEPT_ANSWERS = 5;

    // For each goal what a seat is worth to a that A, B, C, nobody wins.
    private static final int[] WORTHS = {1, -1, 0, 0, 1, 0, 0, 0, 0, -1, 0, 0};

    private static final int UNKNOWN = -1000;
    private static final int A_MILLION = 1000000;

    private final Tape tape = new Tape();
    private final LandText landText = new LandText();
    private final ProtocolText protocolText = new ProtocolText();
    private final Land[] lands = new Land[LANDS];
    private final Protocol[] protocols = new Protocol[PROTOCOLS];
    private final Game[] games = new Game[GAMES];
    private int landCount = 0;
    private int protocolCount = 0;
    private int gameCount = 0;
    // Stand where no land or protocol has come yet, so that no field is null.
    private final Land nowhere = new Land(landText);
    private final Protocol nothing = new Protocol(protocolText);
    private final Cutter scout = new Cutter();
    private final Joiner joiner = new Joiner(nowhere);
    private final Mind mind = new Mind(joiner, nowhere, nothing);
    private final Game trial = new Game(scout, joiner, nowhere, nothing);
    private final int[] answers = new int[LANDS * PROTOCOLS * KEPT_ANSWERS];
    private final int[] parts = new int[HALVES];
    private final int[] otherParts = new int[HALVES];

    public TwoPencils() {
        Arrays.fill(answers, UNKNOWN);
    }

    public int feed(int a, int b, int c, int d, int e) {
        int more = Tape.signsIn(a) + Tape.signsIn(b) + Tape.signsIn(c) + Tape.signsIn(d) + Tape.signsIn(e);
        if (tape.length + more > LONGEST_TAPE) {
            return NONE;
        }
        tape.add(a);
        tape.add(b);
        tape.add(c);
        tape.add(d);
        tape.add(e);
        return tape.length;
    }

    public boolean end(int n) {
        if (n < 0 || n > tape.length) {
            return false;
        }
        tape.length = n;
        return true;
    }

    public int fault(int sort) {
        if (sort == 0) {
            return landText.read(tape);
        }
        return sort == 1 ? protocolText.read(tape) : -2;
    }

    public int land() {
        if (landCount >= LANDS || landText.read(tape) != NONE) {
            return NONE;
        }
        lands[landCount] = new Land(landText);
        tape.length = 0;
        landCount++;
        return landCount - 1;
    }

    public int protocol() {
        if (protocolCount >= PROTOCOLS || protocolText.read(tape) != NONE) {
            return NONE;
        }
        protocols[protocolCount] = new Protocol(protocolText);
        tape.length = 0;
        protocolCount++;
        return protocolCount - 1;
    }

    public int told(int land, int what) {
        Land here = landAt(land);
        if (here == null) {
            return NONE;
        }
        switch (what) {
            case 0: return here.parishes;
            case 1: return here.seats;
            case 2: return here.least;
            case 3: return here.greatest;
            case 4:
            case 5:
            case 6: return here.votesInAll(what - 4);
            default: return NONE;
        }
    }

    public int parish(int land, int parish, int what) throws NoSuchElementException {
        Land here = landAt(land);
        if (here == null || parish < 0 || parish >= here.parishes || what < 0 || what > 4) {
            throw new NoSuchElementException();
        }
        if (what == 3) {
            return here.beside[parish];
        }
        return what == 4 ? here.together[parish] : here.votes[parish * PARTIES + what];
    }

    public boolean vote(int land, int parish, int party, int v) {
        Land here = landAt(land);
        if (here == null || here.played || parish < 0 || parish >= here.parishes) {
            return false;
        }
        if (!isParty(party) || v < 0 || v > MOST_VOTES) {
            return false;
        }
        here.votes[parish * PARTIES + party] = v;
        here.stale = true;
        mind.forget();
        int from = land * PROTOCOLS * KEPT_ANSWERS;
        Arrays.fill(answers, from, from + PROTOCOLS * KEPT_ANSWERS, UNKNOWN);
        return true;
    }

    public int judge(int land, int cut) {
        Land here = readyLand(land);
        return here == null ? NONE : here.judged(cut, parts);
    }

    public int won(int land, int cut, int seat) {
        Land here = landWithLawful(land, cut);
        if (here == null || seat < 0 || seat >= here.seats) {
            return NONE;
        }
        return here.winnerIn(parts[seat]);
    }

    public int seats(int land, int cut, int party) {
        Land here = landWithLawful(land, cut);
        return here == null || !isParty(party) ? NONE : here.wins(parts, party);
    }

    public int all(int land, int i) {
        Land here = readyLand(land);
        if (here == null) {
            return NONE;
        }
        Roll roll = here.rollOfCuts(scout);
        if (i == NONE) {
            return roll.size;
        }
        return i >= 0 && i < roll.size ? roll.cuts[i] : NONE;
    }

    public int alone(int land, int party, int what) {
        Land here = readyLand(land);
        if (here == null || !isParty(party) || what < 0 || what > 2) {
            return NONE;
        }
        Roll roll = here.rollOfCuts(scout);
        if (roll.size == 0) {
            return NONE;
        }
        if (what == 1) {
            return roll.fewest(party);
        }
        int most = roll.most(party);
        return what == 0 ? most : roll.earliest(party, most);
    }

    public int luck(int land, int cut, int party, int what) {
        Land here = landWithLawful(land, cut);
        if (here == null || !isParty(party) || what < 0 || what > 1) {
            return NONE;
        }
        int own = here.wins(parts, party);
        Roll roll = here.rollOfCuts(scout);
        return what == 0 ? roll.howMany(party, own + 1, SEATS) : roll.howMany(party, 0, own - 1);
    }

    public int far(int land, int cut, int party, int what) {
        Land here = landWithLawful(land, cut);
        if (here == null || !isParty(party) || what < 0 || what > 1) {
            return NONE;
        }
        int upper = here.farUpper(here.wins(parts, party), party);
        int lower = here.farLower();
        int common = commonPart(upper, lower);
        if (common < 1) {
            return NONE;
        }
        return what == 0 ? upper / common : lower / common;
    }

    public int apart(int land, int cut, int other) {
        Land here = readyLand(land);
        if (here == null || !here.isNumbered(cut, parts) || !here.isNumbered(other, otherParts)) {
            return NONE;
        }
        return here.distance(parts, otherParts);
    }

    public int settled(int land, int cut) {
        Land here = landWithLawful(land, cut);
        if (here == null) {
            return NONE;
        }
        return here.isSettled(parts) ? 1 : 0;
    }

    public int near(int land, int cut) {
        Land here = readyLand(land);
        if (here == null) {
            return NONE;
        }
        int verdict = here.judged(cut, parts);
        if (verdict == NONE || verdict == 1) {
            return NONE;
        }
        if (verdict == 0 && here.isSettled(parts)) {
            return cut;
        }
        return here.nearestSettled(here.rollOfCuts(scout), parts, otherParts);
    }

    public int walk(int land, int cut, long seed, int steps) {
        Land here = landWithLawful(land, cut);
        if (here == null || steps < 0 || steps > LONGEST_WALK) {
            return NONE;
        }
        here.wander(parts, seed, steps);
        return here.numberOf(parts, here.seats);
    }

    public int game(int land, int protocol) {
        Land here = readyLand(land);
        Protocol by = protocolAt(protocol);
        if (here == null || by == null || gameCount >= GAMES) {
            return NONE;
        }
        Game made = new Game(scout, joiner, here, by);
        made.start(here, by);
        here.played = true;
        games[gameCount] = made;
        gameCount++;
        return gameCount - 1;
    }

    public int phase(int game) {
        Game here = gameAt(game);
        return here == null ? NONE : here.phase;
    }

    public int turn(int game) {
        Game here = gameAt(game);
        return here == null ? NONE : here.mover();
    }

    public boolean move(int game, int x) {
        Game here = gameAt(game);
        if (here == null || !here.permits(x)) {
            return false;
        }
        here.play(x);
        return true;
    }

    public boolean undo(int game) {
        Game here = gameAt(game);
        if (here == null || here.made == 0) {
            return false;
        }
        here.takeBack();
        return true;
    }

    public int best(int game, int goal) {
        Game here = gameAt(game);
        if (here == null || !isGoal(goal) || here.isOver()) {
            return NONE;
        }
        mind.turnTo(here.land, here.protocol, 0, goal);
        mind.weigh(here);
        return mind.choice;
    }

    public int value(int game, int goal) {
        Game here = gameAt(game);
        if (here == null || !isGoal(goal)) {
            return HIDDEN;
        }
        mind.turnTo(here.land, here.protocol, 0, goal);
        return asGoal(goal, mind.weigh(here));
    }

    public int kept(int game, int i) {
        Game here = gameAt(game);
        if (here == null) {
            return NONE;
        }
        if (i == NONE) {
            return here.keptCount;
        }
        return i >= 0 && i < here.keptCount ? here.kept[i] : NONE;
    }

    public int sure(int land, int protocol, int goal) {
        if (readyLand(land) == null || protocolAt(protocol) == null || !isGoal(goal)) {
            return HIDDEN;
        }
        return asGoal(goal, answer(land, protocol, goal));
    }

    public int ended(int land, int protocol) {
        return endOf(land, protocol);
    }

    public int first(int land, int protocol) {
        if (readyLand(land) == null || protocolAt(protocol) == null) {
            return HIDDEN;
        }
        return answer(land, protocol, 0) - answer(land, protocol, CHANGED);
    }

    public int worst(int protocol) {
        if (protocolAt(protocol) == null) {
            return NONE;
        }
        int farthest = NONE;
        int upper = 0;
        int lower = 1;
        for (int l = 0; l < landCount; l++) {
            int itsUpper = farOfEnd(l, endOf(l, protocol));
            Land here = landAt(l);
            if (here == null || itsUpper == NONE) {
                continue;
            }
            int itsLower = here.farLower();
            if (farthest == NONE || itsUpper * lower > upper * itsLower) {
                farthest = l;
                upper = itsUpper;
                lower = itsLower;
            }
        }
        return farthest;
    }

    public int worse(int protocol, int other) {
        if (protocolAt(protocol) == null || protocolAt(other) == null) {
            return NONE;
        }
        int bits = 0;
        for (int l = 0; l < landCount; l++) {
            int its = farOfEnd(l, endOf(l, protocol));
            int others = farOfEnd(l, endOf(l, other));
            if (others != NONE && its > others) {
                bits |= 1 << l;
            }
        }
        return bits;
    }

    public int count(int what) {
        switch (what) {
            case 0: return landCount;
            case 1: return protocolCount;
            case 2: return gameCount;
            case 3: return gamesOver();
            case 4: return tape.length;
            default: return NONE;
        }
    }

    private static boolean isParty(int party) {
        return party >= 0 && party < PARTIES;
    }

    private static boolean isGoal(int goal) {
        return goal >= 0 && goal < GOALS;
    }

    /** Inside, a always wants much: seats of B are counted below zero there. */
    private static int asGoal(int goal, int worth) {
        return goal == 2 ? -worth : worth;
    }

    private static int commonPart(int upper, int lower) {
        int x = lower;
        int y = upper;
        for (int i = 0; i < A_MILLION && y > 0; i++) {
            int rest = x % y;
            x = y;
            y = rest;
        }
        return x;
    }

    private Land landAt(int land) {
        return land >= 0 && land < landCount ? lands[land] : null;
    }

    private Protocol protocolAt(int protocol) {
        return protocol >= 0 && protocol < protocolCount ? protocols[protocol] : null;
    }

    private Game gameAt(int game) {
        return game >= 0 && game < gameCount ? games[game] : null;
    }

    /** The land with tables that fit its votes; these are made late, as votes may come in a row. */
    private Land readyLand(int land) {
        Land here = landAt(land);
        if (here != null && here.stale) {
            here.refresh();
        }
        return here;
    }

    /** The land, if the cut is lawful there; its seats are in parts then. */
    private Land landWithLawful(int land, int cut) {
        Land here = readyLand(land);
        return here != null && here.judged(cut, parts) == 0 ? here : null;
    }

    private int gamesOver() {
        int over = 0;
        for (int g = 0; g < gameCount; g++) {
            Game here = gameAt(g);
            if (here != null && here.isOver()) {
                over++;
            }
        }
        return over;
    }

    /** What comes of a protocol; kept till a vote changes, as this is dear. NONE: no such ones. */
    private int answer(int land, int protocol, int what) {
        Land here = readyLand(land);
        Protocol by = protocolAt(protocol);
        if (here == null || by == null) {
            return NONE;
        }
        int place = (land * PROTOCOLS + protocol) * KEPT_ANSWERS + what;
        if (answers[place] == UNKNOWN) {
            boolean changed = what == CHANGED;
            mind.turnTo(here, by, changed ? 1 : 0, changed ? 0 : what);
            trial.start(here, by);
            answers[place] = mind.weigh(trial);
        }
        return answers[place];
    }

    /** The cut that a protocol has ended with, or NONE; kept likewise. */
    private int endOf(int land, int protocol) {
        Land here = readyLand(land);
        Protocol by = protocolAt(protocol);
        if (here == null || by == null) {
            return NONE;
        }
        int place = (land * PROTOCOLS + protocol) * KEPT_ANSWERS + CUT_AT_END;
        if (answers[place] == UNKNOWN) {
            mind.turnTo(here, by, 0, 0);
            trial.start(here, by);
            for (int i = 0; i < Game.MOST_MOVES && !trial.isOver(); i++) {
                mind.weigh(trial);
                trial.play(mind.choice);
            }
            Land.order(trial.kept, trial.keptCount);
            answers[place] = trial.phase == OVER ? here.numberOf(trial.kept, trial.keptCount) : NONE;
        }
        return answers[place];
    }

    /** The upper number (over the land's lower one) of how far that cut is for A, or NONE. */
    private int farOfEnd(int land, int cut) {
        Land here = landWithLawful(land, cut);
        return here == null ? NONE : here.farUpper(here.wins(parts, 0), 0);
    }

    /** The bytes that were fed, and a place of reading in them. */
    private static final class Tape {
        private final char[] signs = new char[LONGEST_TAPE];
        private int length = 0;
        private int at = 0;
        private int flaw = NONE;

        static int signsIn(int word) {
            int signs = 0;
            for (int shift = 24; shift >= 0; shift -= 8) {
                if ((word >>> shift & 255) != 0) {
                    signs++;
                }
            }
            return signs;
        }

        void add(int word) {
            for (int shift = 24; shift >= 0; shift -= 8) {
                int sign = word >>> shift & 255;
                if (sign != 0 && length < LONGEST_TAPE) {
                    signs[length] = (char) sign;
                    length++;
                }
            }
        }

        void rewind() {
            at = 0;
            flaw = NONE;
        }

        /** The next sign that is no blank; 0 at the end, as no byte of the tape is 0. */
        char peek() {
            for (int i = 0; i < LONGEST_TAPE && at < length && signs[at] == ' '; i++) {
                at++;
            }
            return at < length ? signs[at] : 0;
        }

        void pass() {
            at++;
        }

        boolean take(char sign) {
            if (peek() != sign) {
                return refuse(at);
            }
            at++;
            return true;
        }

        boolean refuse(int place) {
            flaw = place;
            return false;
        }

        /** A number within bounds and unlike another one; else NONE, and the fault is noted. */
        int number(int low, int high, int unlike) {
            peek();
            int value = 0;
            int digits = 0;
            for (; digits < 4 && at < length && signs[at] >= '0' && signs[at] <= '9'; digits++) {
                value = value * 10 + signs[at] - '0';
                at++;
            }
            if (digits == 0) {
                refuse(at);
                return NONE;
            }
            if (digits == 4 || value < low || value > high || value == unlike) {
                refuse(at - 1);
                return NONE;
            }
            return value;
        }
    }

    /** Reads the tape as a land; what it told stands in the fields if there was no fault. */
    private static final class LandText {
        private int parishes;
        private int seats;
        private int least;
        private int greatest;
        private final int[] votes = new int[PARISHES * PARTIES];
        private final int[] beside = new int[PARISHES];
        private final int[] together = new int[PARISHES];

        int read(Tape tape) {
            clear();
            tape.rewind();
            boolean going = readSize(tape);
            for (int i = 0; i < LONGEST_TAPE && going && tape.peek() != 0; i++) {
                going = tape.take(';') && readSentence(tape);
            }
            return tape.flaw;
        }

        private void clear() {
            least = 0;
            greatest = MOST_HEADS;
            Arrays.fill(votes, 0);
            Arrays.fill(beside, 0);
            for (int p = 0; p < PARISHES; p++) {
                together[p] = 1 << p;
            }
        }

        private boolean readSize(Tape tape) {
            parishes = tape.number(2, PARISHES, NONE);
            if (parishes == NONE || !tape.take('/')) {
                return false;
            }
            seats = tape.number(1, Math.min(SEATS, parishes), NONE);
            return seats != NONE;
        }

        private boolean readSentence(Tape tape) {
            char sign = tape.peek();
            if (sign == '<') {
                tape.pass();
                greatest = tape.number(0, MOST_HEADS, NONE);
                return greatest != NONE;
            }
            if (sign == '>') {
                tape.pass();
                least = tape.number(0, MOST_HEADS, NONE);
                return least != NONE;
            }
            int parish = tape.number(0, parishes - 1, NONE);
            if (parish == NONE) {
                return false;
            }
            sign = tape.peek();
            if (sign == ':') {
                tape.pass();
                return readVotes(tape, parish * PARTIES);
            }
            if (sign == '-') {
                return readPair(tape, parish, beside);
            }
            return sign == '=' ? readPair(tape, parish, together) : tape.refuse(tape.at);
        }

        private boolean readVotes(Tape tape, int from) {
            int ofA = tape.number(0, MOST_VOTES, NONE);
            if (ofA == NONE || !tape.take(',')) {
                return false;
            }
            int ofB = tape.number(0, MOST_VOTES, NONE);
            if (ofB == NONE) {
                return false;
            }
            int ofC = 0;
            if (tape.peek() == ',') {
                tape.pass();
                ofC = tape.number(0, MOST_VOTES, NONE);
            }
            votes[from] = ofA;
            votes[from + 1] = ofB;
            votes[from + 2] = ofC;
            return ofC != NONE;
        }

        private boolean readPair(Tape tape, int parish, int[] rows) {
            tape.pass();
            int other = tape.number(0, parishes - 1, parish);
            if (other == NONE) {
                return false;
            }
            rows[parish] |= 1 << other;
            rows[other] |= 1 << parish;
            return true;
        }
    }

    /** Reads the tape as a protocol. */
    private static final class ProtocolText {
        private int rounds;
        private final int[] kinds = new int[ROUNDS];
        private final int[] drawers = new int[ROUNDS];

        int read(Tape tape) {
            rounds = 0;
            tape.rewind();
            boolean going = readRound(tape);
            for (int i = 0; i < LONGEST_TAPE && going && tape.peek() != 0; i++) {
                going = tape.take(',') && readRound(tape);
            }
            return tape.flaw;
        }

        private boolean readRound(Tape tape) {
            int drawer = playerOf(tape.peek());
            if (drawer == NONE || rounds >= ROUNDS) {
                return tape.refuse(tape.at);
            }
            tape.pass();
            int kind = kindOf(tape.peek());
            if (kind != ALL_KEPT) {
                tape.pass();
                if (playerOf(tape.peek()) != 1 - drawer) {
                    return tape.refuse(tape.at);
                }
                tape.pass();
            }
            kinds[rounds] = kind;
            drawers[rounds] = drawer;
            rounds++;
            return true;
        }

        private static int playerOf(char sign) {
            if (sign == 'a') {
                return 0;
            }
            return sign == 'b' ? 1 : NONE;
        }

        private static int kindOf(char sign) {
            switch (sign) {
                case '>': return DRAW;
                case '+': return HALVE;
                case '/': return ONE_OF_TWO;
                default: return ALL_KEPT;
            }
        }
    }

    /**
     * Of which kind a round is and who draws in it, by the number of seats kept before it: only
     * rounds by which one seat is kept go on, so that number tells the round.
     */
    private static final class Protocol {
        private final int[] kinds = new int[SEATS];
        private final int[] drawers = new int[SEATS];

        Protocol(ProtocolText text) {
            for (int kept = 0; kept < SEATS && text.rounds > 0; kept++) {
                kinds[kept] = text.kinds[kept % text.rounds];
                drawers[kept] = text.drawers[kept % text.rounds];
            }
        }
    }

    /** Parishes with their votes. Sets of parishes are bits; tables have a place for each set. */
    private static final class Land {
        private final int parishes;
        private final int seats;
        private final int least;
        private final int greatest;
        private final int everyone;
        private final int[] votes;
        private final int[] beside;
        private final int[] together;
        // Votes of A, B, C in ten bits each: nine parishes have less than 1024 of a party.
        private final int[] totals;
        private final byte[] winner;
        // Bit p of a set's place: parishes from p on can be found that make it hang together (be a
        // lawful seat) with it; so the bit with the number of all parishes tells of the set itself.
        private final int[] hanging;
        private final int[] lawful;
        private final int[] common = new int[1 << SEATS];
        private final Roll roll;
        private boolean stale = true;
        private boolean played = false;

        Land(LandText text) {
            parishes = text.parishes;
            seats = text.seats;
            least = text.least;
            greatest = text.greatest;
            everyone = (1 << parishes) - 1;
            votes = text.votes.clone();
            beside = text.beside.clone();
            together = text.together.clone();
            totals = new int[1 << parishes];
            winner = new byte[1 << parishes];
            hanging = new int[1 << parishes];
            lawful = new int[1 << parishes];
            roll = new Roll();
            gatherTogether();
            findHanging();
        }

        private void gatherTogether() {
            for (int by = 0; by < parishes; by++) {
                for (int p = 0; p < parishes; p++) {
                    if ((together[p] >> by & 1) != 0) {
                        together[p] |= together[by];
                    }
                }
            }
        }

        /** A set hangs together just if one of it can be left out that is beside such a set. */
        private void findHanging() {
            for (int set = 1; set <= everyone; set++) {
                boolean hangs = (set & (set - 1)) == 0;
                for (int p = 0; p < parishes && !hangs; p++) {
                    int rest = set & ~(1 << p);
                    hangs = rest != set && (beside[p] & rest) != 0 && isHanging(rest);
                }
                hanging[set] = hangs ? 1 << parishes : 0;
            }
            lookAhead(hanging);
        }

        /** Greater sets come first, as a set looks at those with one parish more. */
        private void lookAhead(int[] table) {
            for (int set = everyone; set >= 0; set--) {
                for (int p = parishes - 1; p >= 0 && set >> p == 0; p--) {
                    int behind = table[set] | table[set | 1 << p];
                    table[set] |= (behind >> (p + 1) & 1) << p;
                }
            }
        }

        void refresh() {
            for (int p = 0; p < parishes; p++) {
                int from = p * PARTIES;
                int own = votes[from] | votes[from + 1] << 10 | votes[from + 2] << 20;
                int bit = 1 << p;
                for (int set = 0; set < bit; set++) {
                    totals[set | bit] = totals[set] + own;
                }
            }
            for (int set = 0; set <= everyone; set++) {
                winner[set] = (byte) winnerOf(set);
                lawful[set] = flawOf(set) == 0 ? 1 << parishes : 0;
            }
            lookAhead(lawful);
            roll.listed = false;
            stale = false;
        }

        private int votesIn(int set, int party) {
            return set >= 0 && set < totals.length ? totals[set] >> 10 * party & 1023 : 0;
        }

        private int headsIn(int set) {
            return votesIn(set, 0) + votesIn(set, 1) + votesIn(set, 2);
        }

        private int winnerOf(int set) {
            int a = votesIn(set, 0);
            int b = votesIn(set, 1);
            int c = votesIn(set, 2);
            if (a > b && a > c) {
                return 0;
            }
            if (b > a && b > c) {
                return 1;
            }
            return c > a && c > b ? 2 : NOBODY;
        }

        private int flawOf(int set) {
            if (!isHanging(set)) {
                return 2;
            }
            int heads = headsIn(set);
            if (heads < least || heads > greatest) {
                return 3;
            }
            for (int p = 0; p < parishes; p++) {
                if ((set >> p & 1) != 0 && (together[p] & ~set) != 0) {
                    return 4;
                }
            }
            return 0;
        }

        boolean isHanging(int set) {
            return set >= 0 && set < hanging.length && (hanging[set] >> parishes & 1) != 0;
        }

        boolean isLawful(int set) {
            return set >= 0 && set < lawful.length && (lawful[set] >> parishes & 1) != 0;
        }

        int winnerIn(int set) {
            return set >= 0 && set < winner.length ? winner[set] : NOBODY;
        }

        int votesInAll(int party) {
            int sum = 0;
            for (int p = 0; p < parishes; p++) {
                sum += votes[p * PARTIES + party];
            }
            return sum;
        }

        /** Sorts open parishes into parts; false if the number does not tell just so many, in order. */
        boolean split(int number, int bits, int open, int count, int[] parts) {
            if (number < 0 || number >= 1 << bits * parishes) {
                return false;
            }
            int used = 0;
            for (int p = 0; p < parishes; p++) {
                int digit = number >> bits * (parishes - 1 - p) & (1 << bits) - 1;
                if ((open >> p & 1) == 0) {
                    if (digit != 0) {
                        return false;
                    }
                    continue;
                }
                if (digit > used || digit >= parts.length) {
                    return false;
                }
                if (digit == used) {
                    parts[digit] = 0;
                    used++;
                }
                parts[digit] |= 1 << p;
            }
            return used == count;
        }

        /** Whether it is a cut of the whole land that is judged otherwise than 1. */
        boolean isNumbered(int cut, int[] parts) {
            return split(cut, CUT_BITS, everyone, seats, parts);
        }

        boolean isLawfulCut(int number, int open, int count, int[] parts) {
            if (!split(number, CUT_BITS, open, count, parts)) {
                return false;
            }
            for (int s = 0; s < count; s++) {
                if (!isLawful(parts[s])) {
                    return false;
                }
            }
            return true;
        }

        /** NONE: no such number. If it is 0 or more than 1, the seats stand in parts. */
        int judged(int cut, int[] parts) {
            if (cut < 0 || cut >= 1 << CUT_BITS * parishes) {
                return NONE;
            }
            if (!isNumbered(cut, parts)) {
                return 1;
            }
            for (int s = 0; s < seats; s++) {
                int flaw = flawOf(parts[s]);
                if (flaw != 0) {
                    return flaw;
                }
            }
            return 0;
        }

        int numberOf(int[] parts, int count) {
            int number = 0;
            for (int s = 1; s < count; s++) {
                for (int p = 0; p < parishes; p++) {
                    if ((parts[s] >> p & 1) != 0) {
                        number += s << CUT_BITS * (parishes - 1 - p);
                    }
                }
            }
            return number;
        }

        static int lowest(int set) {
            return set & -set;
        }

        static void order(int[] parts, int count) {
            for (int i = 1; i < count; i++) {
                int part = parts[i];
                int to = i;
                for (; to > 0 && lowest(parts[to - 1]) > lowest(part); to--) {
                    parts[to] = parts[to - 1];
                }
                parts[to] = part;
            }
        }

        int wins(int[] parts, int party) {
            int won = 0;
            for (int s = 0; s < seats; s++) {
                if (winnerIn(parts[s]) == party) {
                    won++;
                }
            }
            return won;
        }

        /** What a seat adds to a goal, as a sees it: a wants all goals great, b wants them small. */
        int worth(int set, int goal) {
            if (set < 0 || set >= winner.length || goal < 0 || goal >= GOALS) {
                return 0;
            }
            return WORTHS[4 * goal + winner[set]];
        }

        int worthOfAll(int[] parts, int count, int goal) {
            int sum = 0;
            for (int s = 0; s < count; s++) {
                sum += worth(parts[s], goal);
            }
            return sum;
        }

        int farUpper(int won, int party) {
            return Math.abs(won * headsIn(everyone) - votesIn(everyone, party) * seats);
        }

        int farLower() {
            return Math.max(1, headsIn(everyone) * seats);
        }

        /** Seats of one are paired in their order with all sets of so many seats of the other. */
        int distance(int[] one, int[] other) {
            for (int taken = 1; taken < 1 << seats; taken++) {
                int seat = Integer.bitCount(taken) - 1;
                int most = 0;
                for (int s = 0; s < seats; s++) {
                    if ((taken >> s & 1) != 0) {
                        int shared = Integer.bitCount(one[seat] & other[s]);
                        most = Math.max(most, common[taken ^ 1 << s] + shared);
                    }
                }
                common[taken] = most;
            }
            return parishes - common[(1 << seats) - 1];
        }

        boolean isSettled(int[] parts) {
            for (int from = 0; from < seats; from++) {
                for (int to = 0; to < seats; to++) {
                    if (from != to && changesBalance(parts[from], parts[to])) {
                        return false;
                    }
                }
            }
            return true;
        }

        /** Whether a parish can go from one seat to another such that others win than before. */
        private boolean changesBalance(int from, int to) {
            int before = worth(from, 0) + worth(to, 0);
            for (int p = 0; p < parishes; p++) {
                int bit = 1 << p;
                if ((from & bit) != 0 && isLawful(from ^ bit) && isLawful(to | bit)
                        && worth(from ^ bit, 0) + worth(to | bit, 0) != before) {
                    return true;
                }
            }
            return false;
        }

        /** The cut of parts itself is not settled: with one parish apart there is no nearer one. */
        int nearestSettled(Roll from, int[] parts, int[] spare) {
            int nearest = NONE;
            int fewest = parishes + 1;
            for (int i = 0; i < from.size && fewest > 1; i++) {
                split(from.cuts[i], CUT_BITS, everyone, seats, spare);
                int distance = distance(parts, spare);
                if (distance < fewest && isSettled(spare)) {
                    fewest = distance;
                    nearest = from.cuts[i];
                }
            }
            return nearest;
        }

        void wander(int[] parts, long seed, int steps) {
            long x = seed;
            for (int i = 0; i < steps; i++) {
                x = x * 6364136223846793005L + 1442695040888963407L;
                int y = (int) (x >>> 33);
                if (parishes > 0 && seats > 0) {
                    transfer(parts, 1 << y % parishes, y / parishes % seats);
                }
            }
        }

        private void transfer(int[] parts, int bit, int to) {
            int from = 0;
            for (int s = 0; s < seats; s++) {
                if ((parts[s] & bit) != 0) {
                    from = s;
                }
            }
            if (from != to && isLawful(parts[from] ^ bit) && isLawful(parts[to] | bit)) {
                parts[from] ^= bit;
                parts[to] |= bit;
                order(parts, seats);
            }
        }

        Roll rollOfCuts(Cutter cutter) {
            if (!roll.listed) {
                roll.makeRoom(parishes, seats);
                cutter.begin(lawful, parishes, everyone, seats);
                for (int i = 0; i < A_MILLION && cutter.next(); i++) {
                    int[] found = cutter.part;
                    roll.enter(cutter.number(CUT_BITS), wins(found, 0), wins(found, 1), wins(found, 2));
                }
                roll.listed = true;
            }
            return roll;
        }
    }

    /** The lawful cuts of a whole land in their order, with how many seats each party wins. */
    private static final class Roll {
        private int[] cuts = new int[0];
        private int[] wins = new int[0];
        private int size = 0;
        private boolean listed = false;

        /** Room for all ways to sort parishes into seats: votes may make other ones lawful later. */
        void makeRoom(int parishes, int seats) {
            size = 0;
            if (cuts.length > 0) {
                return;
            }
            int[] ways = new int[SEATS + 1];
            ways[0] = 1;
            for (int p = 1; p <= parishes; p++) {
                for (int s = SEATS; s > 0; s--) {
                    ways[s] = ways[s] * s + ways[s - 1];
                }
                ways[0] = 0;
            }
            if (seats >= 0 && seats <= SEATS && ways[seats] > 0) {
                cuts = new int[ways[seats]];
                wins = new int[ways[seats]];
            }
        }

        void enter(int cut, int ofA, int ofB, int ofC) {
            if (size < cuts.length && size < wins.length) {
                cuts[size] = cut;
                wins[size] = ofA | ofB << 3 | ofC << 6;
                size++;
            }
        }

        private int winsOf(int i, int party) {
            return wins[i] >> 3 * party & 7;
        }

        int most(int party) {
            int most = 0;
            for (int i = 0; i < size; i++) {
                most = Math.max(most, winsOf(i, party));
            }
            return most;
        }

        int fewest(int party) {
            int fewest = SEATS;
            for (int i = 0; i < size; i++) {
                fewest = Math.min(fewest, winsOf(i, party));
            }
            return fewest;
        }

        int earliest(int party, int won) {
            for (int i = 0; i < size; i++) {
                if (winsOf(i, party) == won) {
                    return cuts[i];
                }
            }
            return NONE;
        }

        int howMany(int party, int from, int to) {
            int many = 0;
            for (int i = 0; i < size; i++) {
                int won = winsOf(i, party);
                if (won >= from && won <= to) {
                    many++;
                }
            }
            return many;
        }
    }

    /** Finds all ways to sort open parishes into so many parts, in the order of their numbers. */
    private static final class Cutter {
        private final int[] part = new int[HALVES];
        private final int[] parish = new int[PARISHES + 1];
        private final int[] digit = new int[PARISHES + 1];
        private final int[] used = new int[PARISHES + 2];
        private int[] hope = new int[0];
        private int parishes = 0;
        private int places = 0;
        private int count = 0;
        private int at = NONE;

        /** Hope is a land's table of what sets can still become; each part must become it. */
        void begin(int[] hope, int parishes, int open, int count) {
            this.hope = hope;
            this.parishes = parishes;
            this.count = Math.min(count, HALVES);
            places = 0;
            for (int p = 0; p < parishes && places < PARISHES; p++) {
                if ((open >> p & 1) != 0) {
                    parish[places] = p;
                    places++;
                }
            }
            parish[places] = parishes;
            Arrays.fill(part, 0);
            digit[0] = NONE;
            at = 0;
        }

        boolean next() {
            if (at == places) {
                at--;
            }
            for (int i = 0; i < A_MILLION && at >= 0 && at < places; i++) {
                if (!shift()) {
                    at--;
                } else if (isHopeful()) {
                    at++;
                    digit[at] = NONE;
                    if (at == places) {
                        return true;
                    }
                }
            }
            return false;
        }

        /** Puts the parish at this place into the part behind the one it is in. */
        private boolean shift() {
            int bit = 1 << parish[at];
            int old = digit[at];
            if (old >= 0) {
                part[old] &= ~bit;
            }
            int to = old + 1;
            if (to > used[at] || to >= count) {
                return false;
            }
            part[to] |= bit;
            digit[at] = to;
            used[at + 1] = to == used[at] ? to + 1 : used[at];
            return true;
        }

        private boolean isHopeful() {
            int begun = used[at + 1];
            int left = places - at - 1;
            if (begun + left < count) {
                return false;
            }
            int from = parish[at + 1];
            for (int i = 0; i < begun; i++) {
                if (part[i] >= hope.length || (hope[part[i]] >> from & 1) == 0) {
                    return false;
                }
            }
            return true;
        }

        int number(int bits) {
            int number = 0;
            for (int i = 0; i < places; i++) {
                number |= digit[i] << bits * (parishes - 1 - parish[i]);
            }
            return number;
        }
    }

    /** Joins halves two by two to lawful seats, in the way that a player likes best. */
    private static final class Joiner {
        private Land land;
        private int[] half = new int[0];
        private int seats = 0;
        private int player = 0;
        private int goal = 0;
        private final int[] joined = new int[SEATS];
        private int number = NONE;
        private int worth = 0;

        Joiner(Land nowhere) {
            land = nowhere;
        }

        /** False: they can not be joined. */
        boolean join(Land land, int[] half, int seats, int player, int goal) {
            this.land = land;
            this.half = half;
            this.seats = Math.min(seats, SEATS);
            this.player = player;
            this.goal = goal;
            number = NONE;
            worth = 0;
            joinFrom(0, 0, 0);
            return number != NONE;
        }

        /** Halves are numbered by their lowest parishes, so seats come numbered by theirs. */
        private void joinFrom(int seat, int taken, int sum) {
            if (seat >= seats) {
                int its = land.numberOf(joined, seats);
                if (number == NONE || Mind.prefers(player, sum, worth) || sum == worth && its < number) {
                    number = its;
                    worth = sum;
                }
                return;
            }
            int one = 0;
            for (; one < 2 * seats && (taken >> one & 1) != 0; one++) {
                continue;
            }
            for (int other = one + 1; other < 2 * seats && other < half.length; other++) {
                int set = half[one] | half[other];
                if ((taken >> other & 1) == 0 && land.isLawful(set)) {
                    joined[seat] = set;
                    joinFrom(seat + 1, taken | 1 << one | 1 << other, sum + land.worth(set, goal));
                }
            }
        }
    }

    /** A game: moves made so far, and where they have led. */
    private static final class Game {
        // Four seats, each drawn and kept.
        static final int MOST_MOVES = 8;

        private final Cutter scout;
        private final Joiner joiner;
        private Land land;
        private Protocol protocol;
        private final int[] moves = new int[MOST_MOVES];
        private int made = 0;
        private final int[] kept = new int[SEATS];
        private int keptCount = 0;
        private int open = 0;
        private int toCome = 0;
        private int phase = OVER;
        private boolean onlyOne = false;
        // Seats of the cut, or the halves, that were drawn.
        private final int[] drawn = new int[HALVES];
        private final int[] spare = new int[HALVES];
        private int firstCut = NONE;
        private int secondCut = NONE;

        Game(Cutter scout, Joiner joiner, Land land, Protocol protocol) {
            this.scout = scout;
            this.joiner = joiner;
            this.land = land;
            this.protocol = protocol;
        }

        void start(Land land, Protocol protocol) {
            this.land = land;
            this.protocol = protocol;
            made = 0;
            keptCount = 0;
            open = land.everyone;
            toCome = land.seats;
            enterRound();
        }

        boolean isOver() {
            return phase == OVER || phase == BROKEN;
        }

        int mover() {
            if (isOver() || keptCount >= SEATS) {
                return NONE;
            }
            int drawer = protocol.drawers[keptCount];
            return phase == KEEP || phase == JOIN || phase == TAKE ? 1 - drawer : drawer;
        }

        private void enterRound() {
            if (toCome == 0 || keptCount >= SEATS) {
                phase = OVER;
                return;
            }
            phase = protocol.kinds[keptCount];
            if (!(phase == HALVE ? canHalve() : canCut())) {
                phase = BROKEN;
            }
        }

        private boolean canCut() {
            scout.begin(land.lawful, land.parishes, open, toCome);
            boolean can = scout.next();
            onlyOne = can && !scout.next();
            return can;
        }

        private boolean canHalve() {
            scout.begin(land.hanging, land.parishes, open, 2 * toCome);
            for (int i = 0; i < A_MILLION && scout.next(); i++) {
                if (joiner.join(land, scout.part, toCome, 0, 0)) {
                    return true;
                }
            }
            return false;
        }

        boolean permits(int x) {
            switch (phase) {
                case DRAW:
                case ALL_KEPT: return land.isLawfulCut(x, open, toCome, spare);
                case KEEP: return x >= 0 && x < toCome;
                case HALVE: return permitsHalves(x);
                case JOIN: return permitsJoining(x);
                case ONE_OF_TWO: return permitsFirst(x);
                case TWO_OF_TWO: return x > firstCut && land.isLawfulCut(x, open, toCome, spare);
                case TAKE: return x == 0 || x == 1;
                default: return false;
            }
        }

        private boolean permitsHalves(int x) {
            if (!land.split(x, HALVES_BITS, open, 2 * toCome, spare)) {
                return false;
            }
            for (int h = 0; h < 2 * toCome; h++) {
                if (!land.isHanging(spare[h])) {
                    return false;
                }
            }
            return joiner.join(land, spare, toCome, 0, 0);
        }

        private boolean permitsJoining(int x) {
            if (!land.isLawfulCut(x, open, toCome, spare)) {
                return false;
            }
            for (int s = 0; s < toCome; s++) {
                int halves = 0;
                for (int h = 0; h < 2 * toCome; h++) {
                    if ((drawn[h] & ~spare[s]) == 0) {
                        halves++;
                    }
                }
                if (halves != 2) {
                    return false;
                }
            }
            return true;
        }

        /** The last one is no first one of two, as the second has the greater number. */
        private boolean permitsFirst(int x) {
            if (!land.isLawfulCut(x, open, toCome, spare)) {
                return false;
            }
            scout.begin(land.lawful, land.parishes, open, toCome);
            boolean greater = false;
            for (int i = 0; i < A_MILLION && !greater && scout.next(); i++) {
                greater = scout.number(CUT_BITS) > x;
            }
            return greater || onlyOne;
        }

        void takeBack() {
            int left = made - 1;
            start(land, protocol);
            for (int i = 0; i < left; i++) {
                play(moves[i]);
            }
        }

        /** The move is one that is permitted. */
        void play(int x) {
            if (made >= MOST_MOVES) {
                return;
            }
            moves[made] = x;
            made++;
            switch (phase) {
                case DRAW:
                    land.split(x, CUT_BITS, open, toCome, drawn);
                    phase = KEEP;
                    break;
                case KEEP:
                    keepSeat(x);
                    enterRound();
                    break;
                case HALVE:
                    land.split(x, HALVES_BITS, open, 2 * toCome, drawn);
                    phase = JOIN;
                    break;
                case ONE_OF_TWO:
                    firstCut = x;
                    if (onlyOne) {
                        keepCut(x);
                    } else {
                        phase = TWO_OF_TWO;
                    }
                    break;
                case TWO_OF_TWO:
                    secondCut = x;
                    phase = TAKE;
                    break;
                case TAKE:
                    keepCut(x == 0 ? firstCut : secondCut);
                    break;
                case ALL_KEPT:
                case JOIN:
                    keepCut(x);
                    break;
                default:
                    break;
            }
        }

        private void keepSeat(int seat) {
            if (seat >= 0 && seat < drawn.length && keptCount < SEATS && toCome > 0) {
                kept[keptCount] = drawn[seat];
                keptCount++;
                open &= ~drawn[seat];
                toCome--;
            }
        }

        private void keepCut(int cut) {
            land.split(cut, CUT_BITS, open, toCome, drawn);
            int many = toCome;
            for (int s = 0; s < many; s++) {
                keepSeat(s);
            }
            phase = OVER;
        }
    }

    /** Plays at its best by a goal. Worths are as a sees them: a wants much, b wants little. */
    private static final class Mind {
        private static final int SETS = 1 << PARISHES;
        private static final int OUT_OF_REACH = 100;

        private final Joiner joiner;
        private final Cutter[] cutters = new Cutter[SEATS];
        // For each number of seats to come and each set of open parishes.
        private final int[] worths = new int[SEATS * SETS];
        private final int[] choices = new int[SEATS * SETS];
        private final int[] spare = new int[HALVES];
        private Land land;
        private Protocol protocol;
        private int changed = 0;
        private int goal = NONE;
        private int choice = NONE;

        Mind(Joiner joiner, Land nowhere, Protocol nothing) {
            this.joiner = joiner;
            land = nowhere;
            protocol = nothing;
            for (int i = 0; i < SEATS; i++) {
                cutters[i] = new Cutter();
            }
        }

        static boolean prefers(int player, int one, int other) {
            return player == 0 ? one > other : one < other;
        }

        /** Less than any game can come to. */
        private static int worstFor(int player) {
            return player == 0 ? -OUT_OF_REACH : OUT_OF_REACH;
        }

        /** With changed 1, a and b are in each other's place in the protocol. */
        void turnTo(Land land, Protocol protocol, int changed, int goal) {
            if (land != this.land || protocol != this.protocol || changed != this.changed || goal != this.goal) {
                this.land = land;
                this.protocol = protocol;
                this.changed = changed;
                this.goal = goal;
                Arrays.fill(worths, UNKNOWN);
            }
        }

        /** No goal is NONE, so the next one is new. */
        void forget() {
            goal = NONE;
        }

        private int drawer(int toCome) {
            int kept = land.seats - toCome;
            return kept >= 0 && kept < SEATS ? protocol.drawers[kept] ^ changed : 0;
        }

        /** What comes of a game with seats kept so far; the best move is in choice then. */
        int weigh(Game game) {
            int sum = land.worthOfAll(game.kept, game.keptCount, goal);
            int toCome = game.toCome;
            choice = NONE;
            if (game.isOver() || toCome < 1 || toCome > land.seats) {
                return sum;
            }
            switch (game.phase) {
                case KEEP: return sum + keepOne(game.drawn, game.open, toCome, worstFor(drawer(toCome)));
                case JOIN: return sum + joinHalves(game.drawn, toCome);
                case TWO_OF_TWO: return sum + drawSecond(game);
                case TAKE: return sum + takeOne(game);
                default: return sum + ahead(game.open, toCome);
            }
        }

        /** What comes from the beginning of a round on. */
        private int ahead(int open, int toCome) {
            if (toCome < 1 || toCome > land.seats || open < 0 || open >= SETS) {
                return 0;
            }
            int place = (toCome - 1) * SETS + open;
            if (worths[place] == UNKNOWN) {
                switch (protocol.kinds[land.seats - toCome]) {
                    case DRAW:
                        worths[place] = drawForKeeping(open, toCome);
                        break;
                    case HALVE:
                        worths[place] = drawHalves(open, toCome);
                        break;
                    case ONE_OF_TWO:
                        worths[place] = drawFirst(open, toCome);
                        break;
                    default:
                        worths[place] = drawAll(open, toCome);
                        break;
                }
                choices[place] = choice;
            }
            choice = choices[place];
            return worths[place];
        }

        private Cutter cutsOf(int open, int toCome) {
            Cutter cutter = cutters[toCome - 1];
            cutter.begin(land.lawful, land.parishes, open, toCome);
            return cutter;
        }

        private int drawForKeeping(int open, int toCome) {
            int drawer = drawer(toCome);
            int best = worstFor(drawer);
            int number = NONE;
            Cutter cutter = cutsOf(open, toCome);
            for (int i = 0; i < A_MILLION && cutter.next(); i++) {
                int worth = keepOne(cutter.part, open, toCome, best);
                if (prefers(drawer, worth, best)) {
                    best = worth;
                    number = cutter.number(CUT_BITS);
                }
            }
            choice = number;
            return number == NONE ? 0 : best;
        }

        /** Looks no further where the drawer has not less already: such a cut is not drawn. */
        private int keepOne(int[] seat, int open, int toCome, int drawerHas) {
            int drawer = drawer(toCome);
            int best = worstFor(1 - drawer);
            int number = NONE;
            for (int s = 0; s < toCome && prefers(drawer, best, drawerHas); s++) {
                int worth = land.worth(seat[s], goal) + ahead(open & ~seat[s], toCome - 1);
                if (prefers(1 - drawer, worth, best)) {
                    best = worth;
                    number = s;
                }
            }
            choice = number;
            return best;
        }

        private int drawAll(int open, int toCome) {
            int drawer = drawer(toCome);
            int best = 0;
            int number = NONE;
            Cutter cutter = cutsOf(open, toCome);
            for (int i = 0; i < A_MILLION && cutter.next(); i++) {
                int worth = land.worthOfAll(cutter.part, toCome, goal);
                if (number == NONE || prefers(drawer, worth, best)) {
                    best = worth;
                    number = cutter.number(CUT_BITS);
                }
            }
            choice = number;
            return best;
        }

        private int drawHalves(int open, int toCome) {
            int drawer = drawer(toCome);
            int best = 0;
            int number = NONE;
            Cutter cutter = cutters[toCome - 1];
            cutter.begin(land.hanging, land.parishes, open, 2 * toCome);
            for (int i = 0; i < A_MILLION && cutter.next(); i++) {
                if (!joiner.join(land, cutter.part, toCome, 1 - drawer, goal)) {
                    continue;
                }
                if (number == NONE || prefers(drawer, joiner.worth, best)) {
                    best = joiner.worth;
                    number = cutter.number(HALVES_BITS);
                }
            }
            choice = number;
            return best;
        }

        private int joinHalves(int[] half, int toCome) {
            joiner.join(land, half, toCome, 1 - drawer(toCome), goal);
            choice = joiner.number;
            return joiner.worth;
        }

        /**
         * The other one takes the worse of two cuts, so the second best worth is what can be had,
         * and the lowest cut that is worth so much is the first: one behind it is worth so much too.
         */
        private int drawFirst(int open, int toCome) {
            int drawer = drawer(toCome);
            int best = 0;
            int secondBest = 0;
            int cuts = 0;
            Cutter cutter = cutsOf(open, toCome);
            for (; cuts < A_MILLION && cutter.next(); cuts++) {
                int worth = land.worthOfAll(cutter.part, toCome, goal);
                if (cuts == 0) {
                    best = worth;
                    secondBest = worth;
                } else if (prefers(drawer, worth, best)) {
                    secondBest = best;
                    best = worth;
                } else if (cuts == 1 || prefers(drawer, worth, secondBest)) {
                    secondBest = worth;
                }
            }
            choice = lowestWorth(open, toCome, secondBest);
            return secondBest;
        }

        private int lowestWorth(int open, int toCome, int due) {
            int drawer = drawer(toCome);
            Cutter cutter = cutsOf(open, toCome);
            for (int i = 0; i < A_MILLION && cutter.next(); i++) {
                if (!prefers(drawer, due, land.worthOfAll(cutter.part, toCome, goal))) {
                    return cutter.number(CUT_BITS);
                }
            }
            return NONE;
        }

        private int worthOfCut(int cut, Game game) {
            if (!land.split(cut, CUT_BITS, game.open, game.toCome, spare)) {
                return 0;
            }
            return land.worthOfAll(spare, game.toCome, goal);
        }

        private int drawSecond(Game game) {
            int drawer = drawer(game.toCome);
            int ofFirst = worthOfCut(game.firstCut, game);
            int best = 0;
            int number = NONE;
            Cutter cutter = cutsOf(game.open, game.toCome);
            for (int i = 0; i < A_MILLION && cutter.next(); i++) {
                int cut = cutter.number(CUT_BITS);
                int own = land.worthOfAll(cutter.part, game.toCome, goal);
                int worth = prefers(drawer, own, ofFirst) ? ofFirst : own;
                if (cut > game.firstCut && (number == NONE || prefers(drawer, worth, best))) {
                    best = worth;
                    number = cut;
                }
            }
            choice = number;
            return best;
        }

        private int takeOne(Game game) {
            int ofFirst = worthOfCut(game.firstCut, game);
            int ofSecond = worthOfCut(game.secondCut, game);
            boolean second = prefers(1 - drawer(game.toCome), ofSecond, ofFirst);
            choice = second ? 1 : 0;
            return second ? ofSecond : ofFirst;
        }
    }
}
