import java.util.function.Supplier;
import java.util.function.ToIntFunction;

/** What the tests of the edges share: the sentence that is tested, ways written out, all that an object tells. */
final class Check {
    static final int NONE = -1, UNKNOWN = -1001, OUTSIDE = -1002, STATE = -1003, FULL = -1004;
    static final int LOW = Integer.MIN_VALUE, HIGH = Integer.MAX_VALUE;

    private static String sentence = "";
    private static int sentences = 0;
    private static int wrong = 0;

    private Check() {
    }

    /** All that follows tests these words of the document. */
    static void sentence(String words) {
        sentence = words;
        sentences++;
    }

    static void due(String call, long got, long want) {
        if (got != want) {
            fail(call + " answered " + got + ", due is " + want);
        }
    }

    static void same(String what, String got, String want) {
        if (!got.equals(want)) {
            fail(what + ": " + got + ", due is " + want);
        }
    }

    /** The call is answered with this refusal, and an object that never got it tells the same as one that did. */
    static void refused(Supplier<HillWays> state, String call, ToIntFunction<HillWays> made, int want) {
        HillWays x = state.get();
        due(call, made.applyAsInt(x), want);
        same("behind " + call, all(x), all(state.get()));
    }

    private static void fail(String text) {
        wrong++;
        System.out.println("[" + sentence + "] " + text);
    }

    static void end() {
        System.out.println(wrong == 0 ? sentences + " sentences hold" : wrong + " answers are not as due");
        if (wrong != 0) {
            System.exit(1);
        }
    }

    static void write(HillWays x, String text) {
        x.blank();
        for (int i = 0; i < text.length(); i++) {
            x.letter(text.charAt(i));
        }
    }

    static void read(HillWays x, String text) {
        write(x, text);
        x.way();
    }

    static HillWays with(String... ways) {
        HillWays x = new HillWays();
        for (String way : ways) {
            read(x, way);
        }
        due("count(0)", x.count(0), ways.length);
        return x;
    }

    static void exchanges(HillWays x, int... nets) {
        for (int net : nets) {
            x.exchange(net, true);
        }
    }

    static int valley(HillWays x, String text) {
        write(x, text);
        return x.valley();
    }

    /** What an object tells, in so few calls that it stays far below 512; the rest comes of what is asked here. */
    static String all(HillWays x) {
        StringBuilder all = new StringBuilder();
        all.append(x.digest()).append(' ').append(x.fault()).append(' ').append(x.valley());
        for (int way = 0; way < x.count(0); way++) {
            for (int place = 0; place < 6; place++) {
                all.append(' ').append(x.seen(way, 10 + place));
            }
        }
        for (int pair = 0; pair < 64; pair++) {
            all.append(' ').append(x.near(pair / 8, pair % 8, 1));
        }
        return all.toString();
    }

    // ---- what several tests look at, worked out by hand

    /**
     * 0 comes first, then 1, 2, 3, 5, 4; TOP is 0 and 3. 1 and 2 are SIBLINGS, 0 and 3 PEERS; 2 PAYS 3, 1 PAYS 5,
     * 5 and 4 PAY 0.
     */
    static HillWays siblings() {
        return with("12304", "21504");
    }

    /** The row 7 4 5 0 1 6 3 2: 0 and 1 are TOP, and each of the others PAYS the next one towards them. */
    static HillWays chain() {
        return with("10547", "01632");
    }

    /**
     * 2 comes first, then 0, 1, 5, 3, 4; TOP is 2 and 5. 1 PAYS 0, 0 PAYS 5, 5 PAYS 1: a ring; 3 PAYS 2, 1 PAYS 3,
     * 0 PAYS 4, 4 PAYS 2.
     */
    static HillWays ring() {
        return with("10523", "042315");
    }

    /** 1 comes first, then 2, 5, 3, 4; TOP is 1 and 5. 3 PAYS 1; 5, although it is in TOP, PAYS 2, and so does 4. */
    static HillWays payingTop() {
        return with("513", "524");
    }

    /** Each two of the eight NETS stand side by side once: all are TOP and all LINKS are PEERS. */
    static HillWays allLinked() {
        return with("017263", "354", "120374", "465", "231405", "576", "342516", "607");
    }

    /** 0 comes first and 6 is with it in TOP; so many WAYS vote that 1 PAYS 2, and so many that 2 PAYS 1. */
    static HillWays voted(int onePaysTwo, int twoPaysOne) {
        String[] ways = new String[onePaysTwo + twoPaysOne];
        for (int way = 0; way < ways.length; way++) {
            ways[way] = (way < onePaysTwo ? "12" : "21") + "60" + "3457".charAt(way % 4);
        }
        return with(ways);
    }

    /** 0 comes first, TOP is 0, 1 and 3. 4 and 6 have two VOTES each way round, 1 and 7 one, 2 and 7 one. */
    static String[] contradictions() {
        return new String[] {"46501", "64502", "17304", "71305", "46503", "64501", "27304", "72305"};
    }
}
