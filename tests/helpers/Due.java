import java.lang.reflect.InvocationTargetException;
import java.lang.reflect.Method;
import java.util.Map;
import java.util.NoSuchElementException;
import java.util.TreeMap;

/** What the tests of boundary cases share: they tell texts, compare answers, and name the sentence that they test. */
final class Due {
    /** An answer that no call gives: parish() has thrown what it should. */
    static final int NO_SUCH = Integer.MIN_VALUE + 7;
    /** Numbers beyond every bound of the document, on both sides. */
    static final int[] FAR_OUT = {-2, -100, Integer.MIN_VALUE, 1 << 20, Integer.MAX_VALUE};

    private static int wrong = 0;
    private static int compared = 0;
    private static String sentence = "";

    private Due() {
    }

    /** Runs each test of a class: its static methods without arguments. Ends the machine with 1 if one fails. */
    static void runAll(Class<?> tests) {
        Map<String, Method> named = new TreeMap<>();
        for (Method m : tests.getDeclaredMethods()) {
            if (m.getParameterCount() == 0 && m.getReturnType() == void.class && !m.isSynthetic()) {
                named.put(m.getName(), m);
            }
        }
        for (Method m : named.values()) {
            run(m);
        }
        System.out.println(wrong == 0 ? named.size() + " tests, " + compared + " answers are as due"
                : wrong + " answers are not as due");
        if (wrong != 0) {
            System.exit(1);
        }
    }

    private static void run(Method test) {
        int before = compared;
        sentence = "";
        try {
            test.setAccessible(true);
            test.invoke(null);
        } catch (InvocationTargetException e) {
            fail(test.getName() + " threw " + e.getCause());
        } catch (IllegalAccessException e) {
            fail(test.getName() + " can not be called");
        }
        if (sentence.isEmpty() || compared == before) {
            fail(test.getName() + " names no sentence or compares nothing");
        }
    }

    private static void fail(String how) {
        wrong++;
        System.out.println("\"" + sentence + "\": " + how);
    }

    /** The sentence of the document that the test is about: of a promise, or of what stands before them (0). */
    static void says(int promise, String words) {
        sentence = (promise == 0 ? "" : promise + ": ") + words;
    }

    static void due(String call, long got, long want) {
        compared++;
        if (got != want) {
            fail(call + " answered " + got + ", due is " + want);
        }
    }

    static void due(String call, boolean got, boolean want) {
        due(call, got ? 1 : 0, want ? 1 : 0);
    }

    static int feed(TwoPencils x, String text) {
        int length = 0;
        for (int i = 0; i < text.length(); i += 20) {
            int[] w = new int[5];
            for (int k = 0; k < 20 && i + k < text.length(); k++) {
                w[k / 4] |= (text.charAt(i + k) & 255) << 24 - 8 * (k % 4);
            }
            length = x.feed(w[0], w[1], w[2], w[3], w[4]);
        }
        return length;
    }

    /** A new object with these lands. */
    static TwoPencils lands(String... texts) {
        TwoPencils x = new TwoPencils();
        for (int i = 0; i < texts.length; i++) {
            feed(x, texts[i]);
            due("land() of '" + texts[i] + "'", x.land(), i);
        }
        return x;
    }

    static void protocols(TwoPencils x, String... texts) {
        for (String text : texts) {
            int number = x.count(1);
            feed(x, text);
            due("protocol() of '" + text + "'", x.protocol(), number);
        }
    }

    /** A game of land 0 by its protocol 0, with moves made. */
    static TwoPencils game(String land, String protocol, int... moves) {
        TwoPencils x = lands(land);
        protocols(x, protocol);
        due("game(0, 0)", x.game(0, 0), 0);
        play(x, 0, moves);
        return x;
    }

    static void play(TwoPencils x, int game, int... moves) {
        for (int m : moves) {
            due("move(" + game + ", " + m + ")", x.move(game, m), true);
        }
    }

    /** Where a game stands: its phase, whose move it is, how many seats are kept. */
    static void at(TwoPencils x, int game, int phase, int turn, int kept) {
        due("phase(" + game + ")", x.phase(game), phase);
        due("turn(" + game + ")", x.turn(game), turn);
        due("kept(" + game + ", NONE)", x.kept(game, -1), kept);
    }

    /** A refused move that changes nothing. */
    static void noMove(TwoPencils x, int game, int move) {
        String before = picture(x);
        due("move(" + game + ", " + move + ")", x.move(game, move), false);
        same(before, x);
    }

    static int cut(int... digits) {
        int number = 0;
        for (int d : digits) {
            number = number * 4 + d;
        }
        return number;
    }

    static int halves(int... digits) {
        int number = 0;
        for (int d : digits) {
            number = number * 8 + d;
        }
        return number;
    }

    static int bits(int... parishes) {
        int bits = 0;
        for (int p : parishes) {
            bits |= 1 << p;
        }
        return bits;
    }

    static int parish(TwoPencils x, int land, int parish, int what) {
        try {
            return x.parish(land, parish, what);
        } catch (NoSuchElementException e) {
            return NO_SUCH;
        }
    }

    /** The fault of a text on a new tape; the tape stays as it is. Refused it is no land (protocol), else it is one. */
    static void fault(int sort, String text, int want) {
        TwoPencils x = new TwoPencils();
        feed(x, text);
        String of = " of '" + text + "'";
        due("fault(" + sort + ")" + of, x.fault(sort), want);
        due("count(4) behind fault" + of, x.count(4), text.length());
        due((sort == 0 ? "land()" : "protocol()") + of, sort == 0 ? x.land() : x.protocol(), want == -1 ? 0 : -1);
        due("count(4) then" + of, x.count(4), want == -1 ? 0 : text.length());
        due("count(" + sort + ") then" + of, x.count(sort), want == -1 ? 1 : 0);
    }

    static void noFault(int sort, String... texts) {
        for (String text : texts) {
            fault(sort, text, -1);
        }
    }

    /** What can be seen of an object by some fifty calls: what a refused call must leave as it is. */
    static String picture(TwoPencils x) {
        StringBuilder all = new StringBuilder();
        for (int what = 0; what < 5; what++) {
            all.append(x.count(what)).append(' ');
        }
        all.append(x.fault(0)).append(' ').append(x.fault(1)).append(" lands");
        for (int l = 0; l < x.count(0); l++) {
            for (int what = 0; what < 7; what++) {
                all.append(' ').append(x.told(l, what));
            }
            all.append(" cuts ").append(x.all(l, -1)).append(' ').append(x.all(l, 0));
        }
        all.append(" games");
        for (int g = 0; g < x.count(2); g++) {
            all.append(' ').append(x.phase(g)).append(' ').append(x.turn(g)).append(' ').append(x.best(g, 0));
            for (int i = -1; i < x.kept(g, -1); i++) {
                all.append(' ').append(x.kept(g, i));
            }
        }
        return all.toString();
    }

    static void same(String before, TwoPencils x) {
        String now = picture(x);
        compared++;
        if (!now.equals(before)) {
            fail("it was " + before + " and is " + now);
        }
    }
}
