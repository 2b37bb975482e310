import java.util.ArrayList;
import java.util.HashMap;
import java.util.List;
import java.util.Map;
import java.util.NoSuchElementException;
import java.util.Random;
import java.util.regex.Matcher;
import java.util.regex.Pattern;

/**
 * Runs of calls by fixed seeds on TwoPencils and on a slow model that says the document word by
 * word (every cut looked at, every game played out, faults by a regular expression).
 */
public final class AgainstPlainModel {
    private static int wrong = 0;
    private static long calls = 0;
    private static final Map<String, int[]> seen = new HashMap<>();

    public static void main(String[] args) {
        int runs = args.length > 0 ? Integer.parseInt(args[0]) : 400;
        int from = args.length > 1 ? Integer.parseInt(args[1]) : 0;
        for (int seed = from; seed < from + runs && wrong < 20; seed++) {
            new Run(seed).go();
        }
        if (args.length > 2) {
            for (String name : new java.util.TreeMap<>(seen).keySet()) {
                System.out.println(name + " " + seen.get(name)[0] + " of them other than NONE or false " + seen.get(name)[1]);
            }
        }
        System.out.println(calls + " calls, " + wrong + " answers are not as due");
        if (wrong != 0) {
            System.exit(1);
        }
    }

    /** One object, at most 512 calls. */
    static final class Run {
        final Random random;
        final int seed;
        final TwoPencils real = new TwoPencils();
        final Plain plain = new Plain();
        final List<String> told = new ArrayList<>();
        final int largest;
        /** Six or seven parishes in three seats, beside many: halves can be joined in several ways. */
        final boolean crowded;
        int made = 0;

        Run(int seed) {
            this.seed = seed;
            random = new Random(seed * 7919L + 13);
            crowded = seed % 20 == 7;
            largest = seed % 40 == 38 ? 9 : seed % 10 == 9 ? 7 : 5;
        }

        void go() {
            int texts = 2 + random.nextInt(8);
            for (int i = 0; i < texts; i++) {
                tell(i < 2 ? i : random.nextInt(2));
            }
            while (made < 512 && wrong < 20) {
                step();
            }
        }

        void check(String call, long got, long want) {
            made++;
            calls++;
            String name = call.substring(0, call.indexOf('('));
            int[] row = seen.computeIfAbsent(name, k -> new int[2]);
            row[0]++;
            boolean plainNo = want == -1 || want == 0 && (name.equals("vote") || name.equals("move") || name.equals("undo") || name.equals("end"));
            if (!plainNo) {
                row[1]++;
            }
            if (got != want) {
                wrong++;
                System.out.println("seed " + seed + " call " + made + ": " + call + " answered " + got + ", due is " + want + " texts " + told);
            }
        }

        int pick(int n) {
            return random.nextInt(n);
        }

        boolean seldom(int n) {
            return random.nextInt(n) == 0;
        }

        /** A number from 0 to n - 1, now and then one beside these. */
        int about(int n) {
            if (seldom(25)) {
                int[] odd = {-1, -2, n, n + 1, Integer.MAX_VALUE, Integer.MIN_VALUE, 4, 100};
                return odd[pick(odd.length)];
            }
            return n > 0 ? pick(n) : 0;
        }

        void feed(String text) {
            told.add(text);
            int i = 0;
            while (i < text.length() && made < 500) {
                int[] w = new int[5];
                for (int k = 0; k < 20 && i < text.length(); k++) {
                    if (seldom(30)) {
                        continue;
                    }
                    w[k / 4] |= (text.charAt(i) & 255) << 24 - 8 * (k % 4);
                    i++;
                }
                check("feed(" + text + ")", real.feed(w[0], w[1], w[2], w[3], w[4]), plain.feed(w[0], w[1], w[2], w[3], w[4]));
            }
        }

        void tell(int sort) {
            if (seldom(3)) {
                end(0);
            }
            String text = sort == 0 ? landText() : protocolText();
            if (seldom(4)) {
                text = spoiled(text);
            }
            feed(text);
            check("fault(0)", real.fault(0), plain.fault(0));
            check("fault(1)", real.fault(1), plain.fault(1));
            int now = sort == 0 ? plain.land() : plain.protocol();
            check(sort == 0 ? "land()" : "protocol()", sort == 0 ? real.land() : real.protocol(), now);
            if (now < 0 && !seldom(8)) {
                end(0);
            }
        }

        void end(int n) {
            check("end(" + n + ")", real.end(n) ? 1 : 0, plain.end(n) ? 1 : 0);
        }

        String blank() {
            return seldom(40) ? " " : "";
        }

        String number(int n) {
            return seldom(30) ? "0" + n : "" + n;
        }

        String landText() {
            int n = crowded ? 6 + pick(2) : 2 + pick(largest - 1);
            int m = crowded ? 3 : 1 + pick(Math.min(4, n));
            if (n >= 4 && m == 1 && pick(3) > 0) {
                m = 2;
            }
            List<String> sentences = new ArrayList<>();
            sentences.add(blank() + n + blank() + "/" + blank() + number(m));
            int edges = n - 1 + pick(n + 3) + (crowded ? 6 : 0);
            for (int i = 0; i < edges; i++) {
                int p = i < n - 1 ? i : pick(n);
                int q = i < n - 1 ? (seldom(4) ? pick(n) : i + 1) : pick(n);
                if (p != q) {
                    sentences.add(number(p) + blank() + "-" + blank() + number(q));
                }
            }
            int top = seldom(5) ? 100 : 1 + pick(6);
            for (int p = 0; p < n; p++) {
                if (!seldom(6)) {
                    String votes = pick(top) + "," + blank() + pick(top);
                    sentences.add(p + blank() + ":" + votes + (seldom(3) ? blank() + "," + number(pick(top)) : ""));
                }
            }
            if (seldom(5)) {
                int p = pick(n);
                sentences.add(p + "=" + (p + 1 + pick(n - 1)) % n);
            }
            if (seldom(4)) {
                sentences.add("<" + pick(seldom(3) ? 1000 : 4 * top + 4));
            }
            if (seldom(4)) {
                sentences.add(">" + blank() + pick(seldom(6) ? 1000 : top + 1));
            }
            StringBuilder text = new StringBuilder();
            for (String sentence : sentences) {
                text.append(text.length() > 0 ? blank() + ";" + blank() : "").append(sentence);
            }
            return text + blank();
        }

        String protocolText() {
            int rounds = seldom(20) ? 7 : 1 + pick(seldom(3) ? 6 : 3);
            StringBuilder text = new StringBuilder();
            for (int r = 0; r < rounds; r++) {
                boolean a = pick(2) == 0;
                String sign = crowded && r > 0 ? "+" : new String[] {">", ">", ">", "+", "/", "+", "/", ""}[pick(8)];
                text.append(r > 0 ? blank() + "," + blank() : blank()).append(a ? "a" : "b");
                if (!sign.isEmpty()) {
                    text.append(blank()).append(sign).append(blank()).append(a ? "b" : "a");
                }
            }
            return text + blank();
        }

        String spoiled(String text) {
            StringBuilder b = new StringBuilder(text);
            int times = 1 + pick(2);
            String signs = "0123456789 ;:,-=<>/+ab" + (char) 200 + "x\t";
            for (int i = 0; i < times; i++) {
                int at = pick(b.length() + 1);
                int how = pick(4);
                if (how == 0 && b.length() > 1) {
                    b.setLength(Math.max(1, at));
                } else if (how == 1 && at < b.length()) {
                    b.deleteCharAt(at);
                } else if (how == 2 && at < b.length()) {
                    b.setCharAt(at, signs.charAt(pick(signs.length())));
                } else {
                    b.insert(Math.min(at, b.length()), signs.charAt(pick(signs.length())));
                }
            }
            return b.toString();
        }

        int land() {
            return about(plain.lands.size());
        }

        /** Most often a lawful cut, else one that is numbered well, else any number. */
        int cut(int land) {
            if (land < 0 || land >= plain.lands.size()) {
                return pick(30);
            }
            PlainLand l = plain.lands.get(land);
            List<Integer> cuts = pick(4) > 0 ? l.lawfulCuts(l.everyone(), l.seats) : l.cuts(l.everyone(), l.seats, 4);
            if (cuts.isEmpty() || seldom(12)) {
                return about(1 << 2 * l.parishes);
            }
            return cuts.get(pick(cuts.size()));
        }

        void step() {
            int l = land();
            int p = about(plain.protocols.size());
            int g = about(plain.games.size());
            int c = cut(l);
            int party = about(3);
            switch (pick(26)) {
                case 0: check("told(" + l + "," + party + ")", real.told(l, party + 3), plain.told(l, party + 3));
                    check("told(" + l + "," + g + ")", real.told(l, g), plain.told(l, g)); break;
                case 1: parish(l, about(5), about(5)); break;
                case 2: vote(l, about(5), party); break;
                case 3: check("judge(" + l + "," + c + ")", real.judge(l, c), plain.judge(l, c)); break;
                case 4: check("won(" + l + "," + c + "," + p + ")", real.won(l, c, p), plain.won(l, c, p)); break;
                case 5: check("seats(" + l + "," + c + "," + party + ")", real.seats(l, c, party), plain.seats(l, c, party)); break;
                case 6: all(l); break;
                case 7: { int w = about(3);
                    check("alone(" + l + "," + party + "," + w + ")", real.alone(l, party, w), plain.alone(l, party, w)); break; }
                case 8: { int w = about(2);
                    check("luck(" + l + "," + c + "," + party + "," + w + ")", real.luck(l, c, party, w), plain.luck(l, c, party, w)); break; }
                case 9: { int w = about(2);
                    check("far(" + l + "," + c + "," + party + "," + w + ")", real.far(l, c, party, w), plain.far(l, c, party, w)); break; }
                case 10: { int d = cut(l);
                    check("apart(" + l + "," + c + "," + d + ")", real.apart(l, c, d), plain.apart(l, c, d)); break; }
                case 11: check("settled(" + l + "," + c + ")", real.settled(l, c), plain.settled(l, c)); break;
                case 12: check("near(" + l + "," + c + ")", real.near(l, c), plain.near(l, c)); break;
                case 13: { int steps = seldom(3) ? about(501) : about(20);
                    long s = random.nextLong();
                    check("walk(" + l + "," + c + "," + s + "," + steps + ")", real.walk(l, c, s, steps), plain.walk(l, c, s, steps)); break; }
                case 14: check("sure(" + l + "," + p + "," + party + ")", real.sure(l, p, party), plain.sure(l, p, party)); break;
                case 15: check("ended(" + l + "," + p + ")", real.ended(l, p), plain.ended(l, p)); break;
                case 16: check("first(" + l + "," + p + ")", real.first(l, p), plain.first(l, p)); break;
                case 17: check("worst(" + p + ")", real.worst(p), plain.worst(p)); break;
                case 18: { int q = about(plain.protocols.size());
                    check("worse(" + p + "," + q + ")", real.worse(p, q), plain.worse(p, q)); break; }
                case 19: { int w = about(5);
                    check("count(" + w + ")", real.count(w), plain.count(w)); break; }
                case 20: if (plain.games.size() < 8 || seldom(10)) {
                    check("game(" + l + "," + p + ")", real.game(l, p), plain.game(l, p)); } break;
                case 21: case 22: case 23: playSome(g); break;
                case 24: if (seldom(3)) { tell(pick(2)); } else { odds(); } break;
                default: look(g); break;
            }
        }

        void odds() {
            int n = about(20);
            end(n);
            int w = about(3);
            check("fault(" + w + ")", real.fault(w), plain.fault(w));
            if (seldom(6)) {
                for (int i = 0; i < 17 && made < 500; i++) {
                    int x = 0x61200061;
                    check("feed(..)", real.feed(x, x, x, x, x), plain.feed(x, x, x, x, x));
                }
            }
        }

        void all(int l) {
            int many = plain.all(l, -1);
            int i = about(many + 1);
            check("all(" + l + ",-1)", real.all(l, -1), many);
            check("all(" + l + "," + i + ")", real.all(l, i), plain.all(l, i));
        }

        void vote(int l, int parish, int party) {
            int v = seldom(3) ? about(100) : about(6);
            boolean want = plain.vote(l, parish, party, v);
            check("vote(" + l + "," + parish + "," + party + "," + v + ")", real.vote(l, parish, party, v) ? 1 : 0, want ? 1 : 0);
        }

        void parish(int l, int parish, int what) {
            long want;
            long got;
            try {
                want = plain.parish(l, parish, what);
            } catch (NoSuchElementException e) {
                want = Long.MIN_VALUE;
            }
            try {
                got = real.parish(l, parish, what);
            } catch (NoSuchElementException e) {
                got = Long.MIN_VALUE;
            }
            check("parish(" + l + "," + parish + "," + what + ")", got, want);
        }

        void look(int g) {
            int goal = about(3);
            check("phase(" + g + ")", real.phase(g), plain.phase(g));
            check("turn(" + g + ")", real.turn(g), plain.turn(g));
            check("best(" + g + "," + goal + ")", real.best(g, goal), plain.best(g, goal));
            check("value(" + g + "," + goal + ")", real.value(g, goal), plain.value(g, goal));
            check("kept(" + g + ",-1)", real.kept(g, -1), plain.kept(g, -1));
            int i = about(4);
            check("kept(" + g + "," + i + ")", real.kept(g, i), plain.kept(g, i));
        }

        void playSome(int g) {
            if (seldom(4)) {
                check("undo(" + g + ")", real.undo(g) ? 1 : 0, plain.undo(g) ? 1 : 0);
            }
            int x = pick(40);
            if (g >= 0 && g < plain.games.size()) {
                List<Integer> moves = plain.games.get(g).moves();
                if (!moves.isEmpty() && !seldom(6)) {
                    x = moves.get(pick(moves.size()));
                } else if (seldom(2)) {
                    x = about(1 << 12);
                }
                if (!moves.isEmpty() && seldom(8)) {
                    x = moves.get(moves.size() - 1) + (seldom(2) ? 1 : 0);
                }
            }
            check("move(" + g + "," + x + ")", real.move(g, x) ? 1 : 0, plain.move(g, x) ? 1 : 0);
            look(g);
        }
    }

    /** The document, word by word. */
    static final class Plain {
        final StringBuilder tape = new StringBuilder();
        final List<PlainLand> lands = new ArrayList<>();
        final List<String> protocols = new ArrayList<>();
        final List<PlainGame> games = new ArrayList<>();

        int feed(int... words) {
            StringBuilder more = new StringBuilder();
            for (int w : words) {
                for (int s = 24; s >= 0; s -= 8) {
                    if ((w >>> s & 255) != 0) {
                        more.append((char) (w >>> s & 255));
                    }
                }
            }
            if (tape.length() + more.length() > 300) {
                return -1;
            }
            tape.append(more);
            return tape.length();
        }

        boolean end(int n) {
            if (n < 0 || n > tape.length()) {
                return false;
            }
            tape.setLength(n);
            return true;
        }

        int fault(int sort) {
            return sort == 0 ? Faults.ofLand(tape.toString()) : sort == 1 ? Faults.ofProtocol(tape.toString()) : -2;
        }

        int land() {
            if (fault(0) != -1 || lands.size() == 6) {
                return -1;
            }
            lands.add(new PlainLand(tape.toString().replace(" ", "")));
            tape.setLength(0);
            return lands.size() - 1;
        }

        int protocol() {
            if (fault(1) != -1 || protocols.size() == 8) {
                return -1;
            }
            protocols.add(tape.toString().replace(" ", ""));
            tape.setLength(0);
            return protocols.size() - 1;
        }

        boolean isLand(int l) {
            return l >= 0 && l < lands.size();
        }

        boolean isProtocol(int p) {
            return p >= 0 && p < protocols.size();
        }

        boolean isGame(int g) {
            return g >= 0 && g < games.size();
        }

        int told(int l, int what) {
            if (!isLand(l) || what < 0 || what > 6) {
                return -1;
            }
            PlainLand x = lands.get(l);
            int[] votes = x.votesOf(x.everyone());
            return new int[] {x.parishes, x.seats, x.least, x.greatest, votes[0], votes[1], votes[2]}[what];
        }

        int parish(int l, int p, int what) {
            if (!isLand(l) || p < 0 || p >= lands.get(l).parishes || what < 0 || what > 4) {
                throw new NoSuchElementException();
            }
            PlainLand x = lands.get(l);
            if (what < 3) {
                return x.votes[p][what];
            }
            if (what == 3) {
                int bits = 0;
                for (int q = 0; q < x.parishes; q++) {
                    bits |= x.beside[p][q] ? 1 << q : 0;
                }
                return bits;
            }
            return bits(x.reached(p, x.everyone(), x.stay));
        }

        boolean vote(int l, int p, int party, int v) {
            if (!isLand(l) || p < 0 || p >= lands.get(l).parishes || party < 0 || party > 2 || v < 0 || v > 99) {
                return false;
            }
            for (PlainGame g : games) {
                if (g.land == lands.get(l)) {
                    return false;
                }
            }
            lands.get(l).votes[p][party] = v;
            lands.get(l).kept.clear();
            return true;
        }

        int judge(int l, int cut) {
            if (!isLand(l) || cut < 0 || cut > Math.pow(4, lands.get(l).parishes) - 1) {
                return -1;
            }
            return lands.get(l).judged(cut);
        }

        int won(int l, int cut, int seat) {
            if (judge(l, cut) != 0 || seat < 0 || seat >= lands.get(l).seats) {
                return -1;
            }
            PlainLand x = lands.get(l);
            return x.winner(x.partsOf(cut, x.everyone(), 4).get(seat));
        }

        int seats(int l, int cut, int party) {
            if (judge(l, cut) != 0 || party < 0 || party > 2) {
                return -1;
            }
            int sum = 0;
            for (int s = 0; s < lands.get(l).seats; s++) {
                sum += won(l, cut, s) == party ? 1 : 0;
            }
            return sum;
        }

        List<Integer> cutsOf(int l) {
            PlainLand x = lands.get(l);
            return x.lawfulCuts(x.everyone(), x.seats);
        }

        int all(int l, int i) {
            if (!isLand(l)) {
                return -1;
            }
            List<Integer> cuts = cutsOf(l);
            return i == -1 ? cuts.size() : i >= 0 && i < cuts.size() ? cuts.get(i) : -1;
        }

        int alone(int l, int party, int what) {
            if (!isLand(l) || party < 0 || party > 2 || what < 0 || what > 2 || cutsOf(l).isEmpty()) {
                return -1;
            }
            int most = -1;
            int fewest = 99;
            int by = -1;
            for (int c : cutsOf(l)) {
                int s = seats(l, c, party);
                if (s > most) {
                    most = s;
                    by = c;
                }
                fewest = Math.min(fewest, s);
            }
            return new int[] {most, fewest, by}[what];
        }

        int luck(int l, int cut, int party, int what) {
            if (judge(l, cut) != 0 || party < 0 || party > 2 || what < 0 || what > 1) {
                return -1;
            }
            int many = 0;
            for (int c : cutsOf(l)) {
                int more = seats(l, c, party) - seats(l, cut, party);
                many += what == 0 && more > 0 || what == 1 && more < 0 ? 1 : 0;
            }
            return many;
        }

        int far(int l, int cut, int party, int what) {
            if (judge(l, cut) != 0 || party < 0 || party > 2 || what < 0 || what > 1) {
                return -1;
            }
            PlainLand x = lands.get(l);
            int[] votes = x.votesOf(x.everyone());
            int sum = votes[0] + votes[1] + votes[2];
            if (sum == 0) {
                return what;
            }
            int upper = Math.abs(seats(l, cut, party) * sum - votes[party] * x.seats);
            int lower = x.seats * sum;
            for (int d = lower; d > 1; d--) {
                if (upper % d == 0 && lower % d == 0) {
                    upper /= d;
                    lower /= d;
                }
            }
            return what == 0 ? upper : lower;
        }

        int apart(int l, int cut, int other) {
            if (judge(l, cut) == -1 || judge(l, other) == -1 || judge(l, cut) == 1 || judge(l, other) == 1) {
                return -1;
            }
            return lands.get(l).apart(cut, other);
        }

        int balance(int l, int cut) {
            return seats(l, cut, 0) - seats(l, cut, 1);
        }

        int settled(int l, int cut) {
            if (judge(l, cut) != 0) {
                return -1;
            }
            PlainLand x = lands.get(l);
            Integer known = x.kept.get("settled" + cut);
            if (known == null) {
                known = 1;
                for (int c : cutsOf(l)) {
                    if (x.apart(c, cut) == 1 && balance(l, c) != balance(l, cut)) {
                        known = 0;
                    }
                }
                x.kept.put("settled" + cut, known);
            }
            return known;
        }

        int near(int l, int cut) {
            if (judge(l, cut) == -1 || judge(l, cut) == 1) {
                return -1;
            }
            int best = -1;
            for (int c : cutsOf(l)) {
                if (settled(l, c) == 1 && (best == -1 || apart(l, c, cut) < apart(l, best, cut))) {
                    best = c;
                }
            }
            return best;
        }

        int walk(int l, int cut, long seed, int steps) {
            if (judge(l, cut) != 0 || steps < 0 || steps > 500) {
                return -1;
            }
            PlainLand x = lands.get(l);
            long r = seed;
            int now = cut;
            for (int i = 0; i < steps; i++) {
                r = r * 6364136223846793005L + 1442695040888963407L;
                long y = r >>> 33;
                int[] digits = new int[x.parishes];
                for (int p = 0; p < x.parishes; p++) {
                    digits[p] = now >> 2 * (x.parishes - 1 - p) & 3;
                }
                digits[(int) (y % x.parishes)] = (int) (y / x.parishes % x.seats);
                int next = 0;
                List<Integer> names = new ArrayList<>();
                for (int d : digits) {
                    if (!names.contains(d)) {
                        names.add(d);
                    }
                    next = next * 4 + names.indexOf(d);
                }
                now = x.judged(next) == 0 ? next : now;
            }
            return now;
        }

        int game(int l, int p) {
            if (!isLand(l) || !isProtocol(p) || games.size() == 8) {
                return -1;
            }
            games.add(new PlainGame(lands.get(l), protocols.get(p)));
            return games.size() - 1;
        }

        int phase(int g) {
            return isGame(g) ? games.get(g).phase : -1;
        }

        int turn(int g) {
            return isGame(g) ? games.get(g).turn() : -1;
        }

        boolean move(int g, int x) {
            if (!isGame(g) || !games.get(g).moves().contains(x)) {
                return false;
            }
            games.set(g, games.get(g).after(x));
            return true;
        }

        boolean undo(int g) {
            if (!isGame(g) || games.get(g).before == null) {
                return false;
            }
            games.set(g, games.get(g).before);
            return true;
        }

        int best(int g, int goal) {
            return !isGame(g) || goal < 0 || goal > 2 || games.get(g).phase > 7 ? -1 : games.get(g).play(goal)[1];
        }

        int value(int g, int goal) {
            return !isGame(g) || goal < 0 || goal > 2 ? -100 : games.get(g).play(goal)[0];
        }

        int kept(int g, int i) {
            if (!isGame(g)) {
                return -1;
            }
            List<List<Integer>> kept = games.get(g).kept;
            return i == -1 ? kept.size() : i >= 0 && i < kept.size() ? bits(kept.get(i)) : -1;
        }

        int sure(int l, int p, int goal) {
            if (!isLand(l) || !isProtocol(p) || goal < 0 || goal > 2) {
                return -100;
            }
            return new PlainGame(lands.get(l), protocols.get(p)).play(goal)[0];
        }

        int ended(int l, int p) {
            if (!isLand(l) || !isProtocol(p)) {
                return -1;
            }
            PlainGame g = new PlainGame(lands.get(l), protocols.get(p));
            while (g.phase < 8) {
                g = g.after(g.play(0)[1]);
            }
            if (g.phase == 9) {
                return -1;
            }
            int[] digits = new int[g.land.parishes];
            int used = 0;
            for (int q = 0; q < digits.length; q++) {
                for (List<Integer> seat : g.kept) {
                    if (seat.get(0) == q) {
                        for (int r : seat) {
                            digits[r] = used;
                        }
                        used++;
                    }
                }
            }
            int number = 0;
            for (int d : digits) {
                number = number * 4 + d;
            }
            return number;
        }

        int first(int l, int p) {
            if (!isLand(l) || !isProtocol(p)) {
                return -100;
            }
            String changed = protocols.get(p).replace('a', 'x').replace('b', 'a').replace('x', 'b');
            return sure(l, p, 0) - new PlainGame(lands.get(l), changed).play(0)[0];
        }

        double farOfEnded(int l, int p) {
            int cut = ended(l, p);
            return cut == -1 ? -1 : (double) far(l, cut, 0, 0) / far(l, cut, 0, 1);
        }

        int worst(int p) {
            if (!isProtocol(p)) {
                return -1;
            }
            int worst = -1;
            for (int l = 0; l < lands.size(); l++) {
                double far = farOfEnded(l, p);
                if (far >= 0 && (worst == -1 || far > farOfEnded(worst, p) + 1e-9)) {
                    worst = l;
                }
            }
            return worst;
        }

        int worse(int p, int other) {
            if (!isProtocol(p) || !isProtocol(other)) {
                return -1;
            }
            int bits = 0;
            for (int l = 0; l < lands.size(); l++) {
                double one = farOfEnded(l, p);
                double two = farOfEnded(l, other);
                bits |= one >= 0 && two >= 0 && one > two + 1e-9 ? 1 << l : 0;
            }
            return bits;
        }

        int count(int what) {
            int over = 0;
            for (PlainGame g : games) {
                over += g.phase > 7 ? 1 : 0;
            }
            int[] counts = {lands.size(), protocols.size(), games.size(), over, tape.length()};
            return what >= 0 && what < 5 ? counts[what] : -1;
        }
    }

    static int bits(List<Integer> parishes) {
        int bits = 0;
        for (int p : parishes) {
            bits |= 1 << p;
        }
        return bits;
    }

    static final class Faults {
        static final String N = "[0-9]{1,3}";
        static final Pattern LAND = Pattern.compile((" *N */ *N( *; *(N *: *N *, *N( *, *N)?|N *[-=] *N|[<>] *N))* *").replace("N", N));
        static final String R = "(a( *[>+/] *b)?|b( *[>+/] *a)?)";
        static final Pattern PROTOCOL = Pattern.compile(" *" + R + "( *, *" + R + "){0,5} *");
        static final Pattern TOO_LONG = Pattern.compile(" *" + R + "( *, *" + R + "){5} *, *");

        /** The first byte at which the text can not go on, its length, or -1. */
        static int where(Pattern pattern, String text) {
            for (int k = 1; k <= text.length(); k++) {
                Matcher m = pattern.matcher(text.substring(0, k));
                if (!m.matches() && !m.hitEnd()) {
                    return k - 1;
                }
            }
            return pattern.matcher(text).matches() ? -1 : text.length();
        }

        static int ofProtocol(String text) {
            int at = where(PROTOCOL, text);
            if (at >= 0 && at < text.length() && text.charAt(at) == ',') {
                Matcher m = TOO_LONG.matcher(text);
                if (m.lookingAt() && text.substring(0, m.end()).lastIndexOf(',') == at) {
                    return m.end();
                }
            }
            return at;
        }

        static int ofLand(String text) {
            int at = where(LAND, text);
            String good = at < 0 ? text : text.substring(0, at);
            int parishes = 0;
            int last = -1;
            char before = 'P';
            Matcher m = Pattern.compile("[0-9]+|[^0-9 ]").matcher(good);
            while (m.find()) {
                String t = m.group();
                if (!Character.isDigit(t.charAt(0))) {
                    before = t.charAt(0);
                    continue;
                }
                if (m.end() == at && at < text.length() && Character.isDigit(text.charAt(at))) {
                    return at;
                }
                int n = Integer.parseInt(t);
                boolean ok = true;
                switch (before) {
                    case 'P': ok = n >= 2 && n <= 9; parishes = n; break;
                    case '/': ok = n >= 1 && n <= 4 && n <= parishes; break;
                    case ';': ok = n < parishes; last = n; break;
                    case ':': case ',': ok = n <= 99; break;
                    case '-': case '=': ok = n < parishes && n != last; break;
                    default: break;
                }
                if (!ok) {
                    return m.end() - 1;
                }
            }
            return at;
        }
    }

    static final class PlainLand {
        int parishes;
        int seats;
        int least = 0;
        int greatest = 999;
        final int[][] votes = new int[9][3];
        final boolean[][] beside = new boolean[9][9];
        final boolean[][] stay = new boolean[9][9];
        final Map<String, Integer> kept = new HashMap<>();
        final Map<String, List<Integer>> keptCuts = new HashMap<>();

        PlainLand(String text) {
            String[] sentences = text.split(";");
            parishes = Integer.parseInt(sentences[0].split("/")[0]);
            seats = Integer.parseInt(sentences[0].split("/")[1]);
            for (int i = 1; i < sentences.length; i++) {
                String s = sentences[i];
                if (s.startsWith("<")) {
                    greatest = Integer.parseInt(s.substring(1));
                } else if (s.startsWith(">")) {
                    least = Integer.parseInt(s.substring(1));
                } else if (s.contains(":")) {
                    String[] v = s.split(":")[1].split(",");
                    int p = Integer.parseInt(s.split(":")[0]);
                    for (int k = 0; k < 3; k++) {
                        votes[p][k] = k < v.length ? Integer.parseInt(v[k]) : 0;
                    }
                } else {
                    String[] two = s.split("[-=]");
                    boolean[][] which = s.contains("-") ? beside : stay;
                    int p = Integer.parseInt(two[0]);
                    int q = Integer.parseInt(two[1]);
                    which[p][q] = true;
                    which[q][p] = true;
                }
            }
        }

        List<Integer> everyone() {
            List<Integer> all = new ArrayList<>();
            for (int p = 0; p < parishes; p++) {
                all.add(p);
            }
            return all;
        }

        int[] votesOf(List<Integer> some) {
            int[] sum = new int[3];
            for (int p : some) {
                for (int k = 0; k < 3; k++) {
                    sum[k] += votes[p][k];
                }
            }
            return sum;
        }

        List<Integer> reached(int from, List<Integer> within, boolean[][] by) {
            List<Integer> reached = new ArrayList<>();
            reached.add(from);
            for (int i = 0; i < reached.size(); i++) {
                for (int q : within) {
                    if (by[reached.get(i)][q] && !reached.contains(q)) {
                        reached.add(q);
                    }
                }
            }
            return reached;
        }

        boolean hangs(List<Integer> seat) {
            return reached(seat.get(0), seat, beside).size() == seat.size();
        }

        int flaw(List<Integer> seat) {
            int[] v = votesOf(seat);
            int heads = v[0] + v[1] + v[2];
            if (!hangs(seat)) {
                return 2;
            }
            if (heads > greatest || heads < least) {
                return 3;
            }
            for (int p : seat) {
                if (!seat.containsAll(reached(p, everyone(), stay))) {
                    return 4;
                }
            }
            return 0;
        }

        int winner(List<Integer> seat) {
            int[] v = votesOf(seat);
            int most = Math.max(v[0], Math.max(v[1], v[2]));
            int who = 3;
            int have = 0;
            for (int k = 0; k < 3; k++) {
                if (v[k] == most) {
                    who = k;
                    have++;
                }
            }
            return have == 1 ? who : 3;
        }

        /** Null if seats are not numbered by their lowest parishes. */
        List<List<Integer>> partsOf(int number, List<Integer> open, int base) {
            List<List<Integer>> parts = new ArrayList<>();
            int n = number;
            int[] digit = new int[parishes];
            for (int p = parishes - 1; p >= 0; p--) {
                digit[p] = n % base;
                n /= base;
            }
            for (int p = 0; p < parishes; p++) {
                if (!open.contains(p)) {
                    if (digit[p] != 0) {
                        return null;
                    }
                    continue;
                }
                if (digit[p] > parts.size()) {
                    return null;
                }
                if (digit[p] == parts.size()) {
                    parts.add(new ArrayList<>());
                }
                parts.get(digit[p]).add(p);
            }
            return parts;
        }

        int judged(int cut) {
            List<List<Integer>> parts = partsOf(cut, everyone(), 4);
            if (parts == null || parts.size() != seats) {
                return 1;
            }
            for (List<Integer> seat : parts) {
                if (flaw(seat) != 0) {
                    return flaw(seat);
                }
            }
            return 0;
        }

        /** All numbers of ways to sort open parishes into m parts, rising. */
        List<Integer> cuts(List<Integer> open, int m, int base) {
            return keptCuts.computeIfAbsent(open + " " + m + " " + base, k -> {
                List<Integer> found = new ArrayList<>();
                sort(open, 0, 0, m, 0, base, found);
                found.sort(null);
                return found;
            });
        }

        private void sort(List<Integer> open, int i, int used, int m, int number, int base, List<Integer> found) {
            if (i == open.size()) {
                if (used == m) {
                    found.add(number);
                }
                return;
            }
            int weight = 1;
            for (int k = open.get(i); k < parishes - 1; k++) {
                weight *= base;
            }
            for (int d = 0; d <= used && d < m; d++) {
                sort(open, i + 1, Math.max(used, d + 1), m, number + d * weight, base, found);
            }
        }

        final Map<String, List<Integer>> lawful = new HashMap<>();

        List<Integer> lawfulCuts(List<Integer> open, int m) {
            if (kept.isEmpty()) {
                lawful.clear();
                kept.put("", 0);
            }
            return lawful.computeIfAbsent(open + " " + m, k -> {
                List<Integer> found = new ArrayList<>();
                for (int c : cuts(open, m, 4)) {
                    boolean ok = true;
                    for (List<Integer> seat : partsOf(c, open, 4)) {
                        ok &= flaw(seat) == 0;
                    }
                    if (ok) {
                        found.add(c);
                    }
                }
                return found;
            });
        }

        int apart(int cut, int other) {
            List<List<Integer>> one = partsOf(cut, everyone(), 4);
            List<List<Integer>> two = partsOf(other, everyone(), 4);
            int[] fewest = {99};
            pairs(one, two, new ArrayList<>(), fewest);
            return fewest[0];
        }

        private void pairs(List<List<Integer>> one, List<List<Integer>> two, List<Integer> order, int[] fewest) {
            if (order.size() == seats) {
                int elsewhere = 0;
                for (int s = 0; s < seats; s++) {
                    for (int p : one.get(s)) {
                        elsewhere += two.get(order.get(s)).contains(p) ? 0 : 1;
                    }
                }
                fewest[0] = Math.min(fewest[0], elsewhere);
                return;
            }
            for (int s = 0; s < seats; s++) {
                if (!order.contains(s)) {
                    order.add(s);
                    pairs(one, two, order, fewest);
                    order.remove(order.size() - 1);
                }
            }
        }
    }

    /** A position; each move makes a new one. */
    static final class PlainGame {
        final PlainLand land;
        final String protocol;
        PlainGame before = null;
        List<Integer> open;
        int toCome;
        int round = 0;
        int phase;
        final List<List<Integer>> kept = new ArrayList<>();
        int drawn;
        int second;

        PlainGame(PlainLand land, String protocol) {
            this.land = land;
            this.protocol = protocol;
            open = land.everyone();
            toCome = land.seats;
            enter();
        }

        PlainGame(PlainGame from) {
            land = from.land;
            protocol = from.protocol;
            before = from;
            open = from.open;
            toCome = from.toCome;
            round = from.round;
            phase = from.phase;
            kept.addAll(from.kept);
            drawn = from.drawn;
            second = from.second;
        }

        String roundText() {
            String[] rounds = protocol.split(",");
            return rounds[round % rounds.length];
        }

        void enter() {
            if (toCome == 0) {
                phase = 8;
                return;
            }
            String r = roundText();
            phase = r.length() == 1 ? 2 : r.charAt(1) == '>' ? 0 : r.charAt(1) == '+' ? 3 : 5;
            if (phase == 5 ? land.lawfulCuts(open, toCome).isEmpty() : moves().isEmpty()) {
                phase = 9;
            }
        }

        int turn() {
            if (phase > 7) {
                return -1;
            }
            String r = roundText();
            int at = phase == 1 || phase == 4 || phase == 7 ? 2 : 0;
            return r.charAt(at) == 'a' ? 0 : 1;
        }

        List<Integer> joins(int halves) {
            List<Integer> found = new ArrayList<>();
            for (int c : land.lawfulCuts(open, toCome)) {
                boolean ok = true;
                for (List<Integer> seat : land.partsOf(c, open, 4)) {
                    int in = 0;
                    for (List<Integer> half : land.partsOf(halves, open, 8)) {
                        in += seat.containsAll(half) ? 1 : 0;
                    }
                    ok &= in == 2;
                }
                if (ok) {
                    found.add(c);
                }
            }
            return found;
        }

        /** All moves that may be made, rising. */
        List<Integer> moves() {
            List<Integer> found = new ArrayList<>();
            List<Integer> cuts = phase == 1 || phase > 6 ? null : land.lawfulCuts(open, toCome);
            switch (phase) {
                case 0: case 2: found.addAll(cuts); break;
                case 1: for (int s = 0; s < toCome; s++) { found.add(s); } break;
                case 3:
                    for (int h : land.cuts(open, 2 * toCome, 8)) {
                        boolean ok = true;
                        for (List<Integer> half : land.partsOf(h, open, 8)) {
                            ok &= land.hangs(half);
                        }
                        if (ok && !joins(h).isEmpty()) {
                            found.add(h);
                        }
                    }
                    break;
                case 4: found.addAll(joins(drawn)); break;
                case 5: found.addAll(cuts.size() > 1 ? cuts.subList(0, cuts.size() - 1) : cuts); break;
                case 6: found.addAll(cuts.subList(cuts.indexOf(drawn) + 1, cuts.size())); break;
                case 7: found.add(0); found.add(1); break;
                default: break;
            }
            return found;
        }

        PlainGame after(int x) {
            PlainGame g = new PlainGame(this);
            switch (phase) {
                case 0: g.drawn = x; g.phase = 1; break;
                case 1:
                    List<Integer> seat = land.partsOf(drawn, open, 4).get(x);
                    g.kept.add(seat);
                    g.open = new ArrayList<>(open);
                    g.open.removeAll(seat);
                    g.toCome--;
                    g.round++;
                    g.enter();
                    break;
                case 2: case 4: g.keepAll(x); break;
                case 3: g.drawn = x; g.phase = 4; break;
                case 5:
                    g.drawn = x;
                    g.phase = 6;
                    if (land.lawfulCuts(open, toCome).size() == 1) {
                        g.keepAll(x);
                    }
                    break;
                case 6: g.second = x; g.phase = 7; break;
                case 7: g.keepAll(x == 0 ? drawn : second); break;
                default: throw new IllegalStateException();
            }
            return g;
        }

        void keepAll(int cut) {
            kept.addAll(land.partsOf(cut, open, 4));
            phase = 8;
        }

        int worth(int goal) {
            int a = 0;
            int b = 0;
            for (List<Integer> seat : kept) {
                a += land.winner(seat) == 0 ? 1 : 0;
                b += land.winner(seat) == 1 ? 1 : 0;
            }
            return goal == 0 ? a - b : goal == 1 ? a : b;
        }

        /** What comes of it, and the move. The key leaves out seats kept but for what they are worth. */
        int[] play(int goal) {
            if (phase > 7) {
                return new int[] {worth(goal), -1};
            }
            boolean keyed = phase == 0 || phase == 3 || phase == 5 || phase == 2;
            String key = protocol + " " + goal + " " + open + " " + round + " " + worth(goal);
            if (keyed && land.kept.containsKey(key)) {
                return new int[] {land.kept.get(key), land.kept.get(key + "!")};
            }
            int best = 0;
            int by = -1;
            boolean great = turn() == 0 == (goal != 2);
            for (int x : moves()) {
                int v = after(x).play(goal)[0];
                if (by == -1 || (great ? v > best : v < best)) {
                    best = v;
                    by = x;
                }
            }
            if (keyed) {
                land.kept.put(key, best);
                land.kept.put(key + "!", by);
            }
            return new int[] {best, by};
        }
    }
}
