/** Each promise of the document by answers that were worked out by hand. */
public final class PromisesTest {
    private static final int NONE = -1, UNKNOWN = -1001, OUTSIDE = -1002, STATE = -1003, FULL = -1004;
    private static final int LOW = Integer.MIN_VALUE, HIGH = Integer.MAX_VALUE;
    private static int wrong = 0;

    private static void due(String call, long got, long want) {
        if (got != want) {
            wrong++;
            System.out.println(call + " answered " + got + ", due is " + want);
        }
    }

    private static void write(HillWays x, String text) {
        x.blank();
        for (int i = 0; i < text.length(); i++) {
            x.letter(text.charAt(i));
        }
    }

    private static HillWays with(String... ways) {
        HillWays x = new HillWays();
        for (int i = 0; i < ways.length; i++) {
            write(x, ways[i]);
            due("way() for " + ways[i], x.way(), i);
        }
        return x;
    }

    /**
     * 0 comes first; TOP is 0 and 3 (0 and 5 have as great a sum, but are more as a number); 1 and 2 are siblings;
     * 2 pays 3, 1 pays 5, 4 and 5 pay 0.
     */
    private static HillWays siblings() {
        return with("12304", "21504");
    }

    public static void main(String[] args) {
        constants();
        newObject();
        letters();
        blanks();
        faults();
        waysRead();
        valleys();
        drops();
        exchanges();
        tells();
        nets();
        ranks();
        tops();
        links();
        contradictions();
        seenWays();
        nears();
        counts();
        digests();
        System.out.println(wrong == 0 ? "all promises hold" : wrong + " answers are not as due");
        if (wrong != 0) {
            System.exit(1);
        }
    }

    private static void constants() {
        due("NONE", HillWays.NONE, NONE);
        due("UNKNOWN", HillWays.UNKNOWN, UNKNOWN);
        due("OUTSIDE", HillWays.OUTSIDE, OUTSIDE);
        due("STATE", HillWays.STATE, STATE);
        due("FULL", HillWays.FULL, FULL);
    }

    private static void newObject() {
        HillWays x = new HillWays();
        for (int what = 0; what <= 11; what++) {
            due("1: count(" + what + ")", x.count(what), 0);
        }
        for (int net = 0; net < 8; net++) {
            due("1: net(" + net + ", 2)", x.net(net, 2), NONE);
            due("1: net(" + net + ", 4)", x.net(net, 4), 1 << net);
            due("1: near to itself", x.near(net, net, 0), NONE);
            due("1: rank", x.rank(net), NONE);
        }
        due("1: top()", x.top(), 0);
        due("1: fault()", x.fault(), 0);
        due("1: seen(0, 0)", x.seen(0, 0), UNKNOWN);
    }

    private static void letters() {
        HillWays x = new HillWays();
        int[] bad = {31, 127, 0, -1, 48 + 256, LOW, HIGH};
        for (int code : bad) {
            due("2: letter(" + code + ")", x.letter(code), OUTSIDE);
        }
        due("2: letter(32)", x.letter(32), 1);
        due("2: letter(126)", x.letter(126), 2);
        for (int i = 3; i <= 6; i++) {
            due("2: letter", x.letter('0'), i);
        }
        due("2: OUTSIDE ahead of FULL", x.letter(31), OUTSIDE);
        due("2: FULL", x.letter('0'), FULL);
        due("2: refusals change nothing", x.count(9), 6);
    }

    private static void blanks() {
        HillWays x = new HillWays();
        due("3: blank()", x.blank(), 0);
        write(x, "012345");
        due("3: blank()", x.blank(), 6);
        due("3: blank() again", x.blank(), 0);
        due("3: count(9)", x.count(9), 0);
    }

    private static void faults() {
        String[] texts = {"", "0", "7", "8", "/", " ", "08", "00", "0120", "01234x", "012345", "765432", "9012", "a"};
        int[] places = {0, 1, 1, 0, 0, 0, 1, 1, 3, 5, 6, 6, 0, 0};
        HillWays x = new HillWays();
        for (int i = 0; i < texts.length; i++) {
            write(x, texts[i]);
            due("4: fault() of '" + texts[i] + "'", x.fault(), places[i]);
            due("4: the page stays", x.blank(), texts[i].length());
        }
    }

    private static void waysRead() {
        HillWays x = new HillWays();
        String[] none = {"", "0", "00", "08", "8", "0 1", "012340", "01/"};
        for (String text : none) {
            write(x, text);
            due("5: way() of '" + text + "'", x.way(), STATE);
            due("5: the page stays", x.count(9), text.length());
        }
        for (int i = 0; i < 12; i++) {
            write(x, i % 2 == 0 ? "01" : "765432");
            due("5: way()", x.way(), i);
            due("5: the page is empty", x.count(9), 0);
        }
        due("5: STATE ahead of FULL", x.way(), STATE);
        write(x, "01");
        due("5: FULL", x.way(), FULL);
        due("5: the page stays", x.count(9), 2);
        due("5: not read", x.count(11), 12);
        due("5: not kept", x.count(0), 12);
        x.drop(11);
        due("5: there is room again", x.way(), 11);
        due("5: read", x.count(11), 13);
    }

    private static void valleys() {
        HillWays x = siblings();
        String[] texts = {"1504", "12304", "430", "053", "4032", "05", "230", "30", "0305", "4051", "403", "3051",
            "30512", "512", "5123", "3045", "405123", "035", "67", "06", "501", "215", "051", "324"};
        int[] due = {NONE, NONE, 0, 1, NONE, NONE, NONE, NONE, STATE, NONE, NONE, NONE,
            NONE, NONE, 2, 2, 4, 1, 0, 0, 1, NONE, NONE, 1};
        for (int i = 0; i < texts.length; i++) {
            write(x, texts[i]);
            due("6: valley() of " + texts[i], x.valley(), due[i]);
            due("6: the page stays", x.count(9), texts[i].length());
        }
        write(x, "8");
        due("6: no WAY", x.valley(), STATE);
        write(x, "1");
        due("6: no WAY", x.valley(), STATE);
        x.blank();
        due("6: no WAY", x.valley(), STATE);
        write(x, "1504");
        x.exchange(0, true);
        due("6: an EXCHANGE is LINKED with none", x.valley(), 1);
        x.exchange(5, true);
        due("6: an EXCHANGE is LINKED with none", x.valley(), 0);
        // 0 and 1 are PEERS, and so are 1 and 2: the second one is a VALLEY
        HillWays y = with("3012", "3102", "4120");
        due("6: top()", y.top(), 7);
        write(y, "012");
        due("6: valley() of two PEERS links", y.valley(), 1);
    }

    private static void drops() {
        HillWays x = with("012", "3456", "70");
        int[] bad = {3, -1, 12, LOW, HIGH};
        for (int way : bad) {
            due("7: drop(" + way + ")", x.drop(way), UNKNOWN);
        }
        due("7: nothing changed", x.count(0), 3);
        due("7: drop(0)", x.drop(0), 2);
        due("7: seen(0, 0)", x.seen(0, 0), 4);
        due("7: seen(0, 13)", x.seen(0, 13), 6);
        due("7: seen(1, 10)", x.seen(1, 10), 7);
        due("7: seen(2, 0)", x.seen(2, 0), UNKNOWN);
        due("7: link(0, 1, 0)", x.link(0, 1, 0), 0);
        due("7: drop(1)", x.drop(1), 1);
        due("7: drop(0)", x.drop(0), 0);
        due("7: drop(0)", x.drop(0), UNKNOWN);
        due("7: top()", x.top(), 0);
        due("7: count(11) stays", x.count(11), 3);
        HillWays full = new HillWays();
        for (int i = 0; i < 12; i++) {
            write(full, i < 6 ? "012345" : "765432");
            full.way();
        }
        due("7: drop of twelve long ones", full.drop(0), 11);
        due("7: the fifth", full.seen(4, 15), 5);
        due("7: the sixth", full.seen(5, 15), 2);
        due("7: the last", full.seen(10, 15), 2);
    }

    private static void exchanges() {
        HillWays x = with("01234");
        due("8: exchange(1, false)", x.exchange(1, false), 0);
        due("8: exchange(1, true)", x.exchange(1, true), 0);
        due("8: exchange(1, true)", x.exchange(1, true), 1);
        due("8: link(0, 2, 0) is new", x.link(0, 2, 3), 1);
        due("8: link(0, 1, 3) is gone", x.link(0, 1, 3), 0);
        due("8: exchange(2, true)", x.exchange(2, true), 0);
        due("8: link(0, 3, 3)", x.link(0, 3, 3), 1);
        due("8: count(10)", x.count(10), 6);
        due("8: exchange(7, true), not in a way", x.exchange(7, true), 0);
        due("8: count(10)", x.count(10), 134);
        due("8: exchange(1, false)", x.exchange(1, false), 1);
        due("8: link(1, 3, 3)", x.link(1, 3, 3), 1);
        int[] bad = {8, -1, 32, LOW, HIGH};
        for (int net : bad) {
            due("8: exchange(" + net + ", true)", x.exchange(net, true), UNKNOWN);
            due("8: exchange(" + net + ", false)", x.exchange(net, false), UNKNOWN);
        }
        due("8: nothing changed", x.count(10), 132);
    }

    private static void tells() {
        HillWays x = new HillWays();
        int[] turned = {0, 2, 1, 3, 4};
        int was = 0;
        for (int name = 0; name <= 4; name++) {
            due("9: tell(5, 2, " + name + ")", x.tell(5, 2, name), was);
            due("9: link(5, 2, 4)", x.link(5, 2, 4), name);
            due("9: link(2, 5, 4)", x.link(2, 5, 4), turned[name]);
            was = name;
        }
        due("9: tell from the other end", x.tell(2, 5, 1), 4);
        due("9: told with it", x.tell(5, 2, 0), 2);
        due("9: not told any more", x.tell(2, 5, 0), 0);
        due("9: name 5", x.tell(0, 1, 5), OUTSIDE);
        due("9: name -1", x.tell(0, 1, -1), OUTSIDE);
        due("9: nothing changed", x.tell(0, 1, 0), 0);
        int[] bad = {8, -1, LOW, HIGH};
        for (int net : bad) {
            due("9: a = " + net, x.tell(net, 1, 1), UNKNOWN);
            due("9: b = " + net, x.tell(1, net, 1), UNKNOWN);
            due("9: UNKNOWN first", x.tell(net, 1, 9), UNKNOWN);
            due("9: name " + net, x.tell(1, 2, net), OUTSIDE);
        }
        due("9: a is b", x.tell(3, 3, 1), UNKNOWN);
        due("9: a is b, both unknown", x.tell(8, 8, 1), UNKNOWN);
    }

    private static void nets() {
        HillWays x = siblings();
        int[] degree = {3, 2, 2, 2, 1, 2, 0, 0};
        int[] transit = {3, 2, 2, 2, 0, 2, 0, 0};
        int[] place = {0, 1, 2, 3, 5, 4, NONE, NONE};
        int[] top = {1, 0, 0, 1, 0, 0, 0, 0};
        int[] cone = {51, 2, 4, 12, 16, 34, 64, 128};
        for (int net = 0; net < 8; net++) {
            due("10: DEGREE of " + net, x.net(net, 0), degree[net]);
            due("10: TRANSIT of " + net, x.net(net, 1), transit[net]);
            due("10: place of " + net, x.net(net, 2), place[net]);
            due("10: in TOP " + net, x.net(net, 3), top[net]);
            due("10: CONE of " + net, x.net(net, 4), cone[net]);
            due("10: EXCHANGE " + net, x.net(net, 5), 0);
        }
        x.exchange(4, true);
        due("10: an EXCHANGE", x.net(4, 5), 1);
        due("10: not SEEN", x.net(4, 2), NONE);
        due("10: DEGREE", x.net(4, 0), 0);
        due("10: CONE", x.net(4, 4), 16);
        due("10: 0 is at the end now", x.net(0, 1), 0);
        int[] bad = {8, -1, LOW, HIGH};
        for (int number : bad) {
            due("10: net " + number, x.net(number, 0), UNKNOWN);
            due("10: UNKNOWN first", x.net(number, 9), UNKNOWN);
            due("10: what " + number, x.net(0, number), OUTSIDE);
        }
        due("10: what 6", x.net(7, 6), OUTSIDE);
        HillWays y = with("012", "210", "312");
        due("10: TRANSIT counts each NET once", y.net(1, 1), 3);
        due("10: none at an end", y.net(0, 1), 0);
    }

    private static void ranks() {
        HillWays x = siblings();
        int[] nets = {0, 1, 2, 3, 5, 4, NONE, NONE};
        for (int place = 0; place < 8; place++) {
            due("11: rank(" + place + ")", x.rank(place), nets[place]);
        }
        int[] bad = {-1, 8, LOW, HIGH};
        for (int place : bad) {
            due("11: rank(" + place + ")", x.rank(place), NONE);
        }
        // no TRANSIT: 5 has more DEGREE, then the lesser NETS
        HillWays y = with("75", "15");
        due("11: more DEGREE", y.rank(0), 5);
        due("11: the lesser", y.rank(1), 1);
        due("11: the last", y.rank(2), 7);
        // 6 has less DEGREE than 0, but TRANSIT
        HillWays z = with("364", "01", "02", "05");
        due("11: more TRANSIT", z.rank(0), 6);
        due("11: more DEGREE", z.rank(1), 0);
    }

    private static void tops() {
        due("12: of like ones the least", siblings().top(), 9);
        // 5 and 1 would be less, but 7 has more DEGREE than 1
        HillWays x = with("157", "76", "72");
        due("12: rank(0)", x.rank(0), 5);
        due("12: greatest sum of DEGREES", x.top(), 160);
        // 0, 1, 2 are all linked, 0 and 3 too; 3 has the greatest DEGREE
        HillWays y = with("102", "12", "304", "35", "36", "37");
        due("12: rank(0)", y.rank(0), 0);
        due("12: most NETS", y.top(), 7);
        // 3, 4, 5 are all linked, but without the first one
        HillWays z = with("102", "34", "45", "53");
        due("12: with the first one", z.top(), 3);
        HillWays alone = with("67");
        alone.exchange(7, true);
        due("12: one NET alone", alone.top(), 64);
        alone.exchange(6, true);
        due("12: no NET is SEEN", alone.top(), 0);
        HillWays all = with("012345", "024135", "031425", "0415", "05");
        due("12: six NETS", all.top(), 63);
    }

    private static void links() {
        HillWays x = siblings();
        int[] pairs = {12, 21, 23, 32, 30, 3, 4, 40, 15, 51, 50, 5};
        int[] name = {4, 4, 1, 2, 3, 3, 2, 1, 1, 2, 1, 2};
        int[] forward = {1, 1, 1, 0, 0, 0, 0, 2, 1, 0, 1, 0};
        int[] backward = {1, 1, 0, 1, 0, 0, 2, 0, 0, 1, 0, 1};
        int[] ways = {2, 2, 1, 1, 1, 1, 2, 2, 1, 1, 1, 1};
        for (int i = 0; i < pairs.length; i++) {
            int a = pairs[i] / 10;
            int b = pairs[i] % 10;
            due("13: NAME from " + a + " to " + b, x.link(a, b, 0), name[i]);
            due("13: VOTES from " + a + " to " + b, x.link(a, b, 1), forward[i]);
            due("13: VOTES from " + b + " to " + a, x.link(a, b, 2), backward[i]);
            due("13: WAYS with " + a + " and " + b, x.link(a, b, 3), ways[i]);
            due("13: told of " + a + " and " + b, x.link(a, b, 4), 0);
        }
        for (int what = 0; what <= 4; what++) {
            due("13: no LINK", x.link(0, 1, what), 0);
            due("13: no LINK, not SEEN", x.link(6, 7, what), 0);
            due("13: a is b", x.link(3, 3, what), UNKNOWN);
        }
        x.tell(0, 1, 2);
        due("13: told without a LINK", x.link(0, 1, 4), 2);
        int[] bad = {8, -1, LOW, HIGH};
        for (int number : bad) {
            due("13: a = " + number, x.link(number, 0, 0), UNKNOWN);
            due("13: b = " + number, x.link(0, number, 0), UNKNOWN);
            due("13: UNKNOWN first", x.link(0, number, 5), UNKNOWN);
            due("13: what " + number, x.link(0, 3, number), OUTSIDE);
        }
        due("13: what 5", x.link(0, 3, 5), OUTSIDE);
    }

    private static void contradictions() {
        HillWays x = siblings();
        due("14: contradicted(0)", x.contradicted(0), 10);
        due("14: contradicted(1)", x.contradicted(1), NONE);
        // each pair stands once or twice each way round ahead of 0, which comes first
        HillWays y = with("46501", "64502", "17304", "71305", "46503", "64501", "27304", "72305");
        due("14: rank(0)", y.rank(0), 0);
        due("14: lesser of 4 and 6", Math.min(y.link(4, 6, 1), y.link(4, 6, 2)), 2);
        due("14: the greater number first", y.contradicted(0), 38);
        due("14: then 1 and 7", y.contradicted(1), 15);
        due("14: then 2 and 7", y.contradicted(2), 23);
        due("14: no more", y.contradicted(3), NONE);
        due("14: count(5)", y.count(5), 3);
        int[] bad = {-1, 8, LOW, HIGH};
        for (int place : bad) {
            due("14: contradicted(" + place + ")", y.contradicted(place), NONE);
        }
    }

    private static void seenWays() {
        HillWays x = siblings();
        due("15: NETS", x.seen(0, 0), 5);
        due("15: HILL", x.seen(0, 1), 3);
        due("15: VALLEY", x.seen(0, 2), NONE);
        int[] nets = {2, 1, 5, 0, 4, NONE};
        for (int place = 0; place < 6; place++) {
            due("15: NET at " + place, x.seen(1, 10 + place), nets[place]);
        }
        x.exchange(2, true);
        due("15: left out", x.seen(1, 0), 4);
        due("15: left out", x.seen(1, 10), 1);
        due("15: left out", x.seen(1, 14), NONE);
        int[] bad = {-1, 3, 9, 16, LOW, HIGH};
        for (int what : bad) {
            due("15: what " + what, x.seen(0, what), OUTSIDE);
        }
        int[] badWays = {-1, 2, 12, LOW, HIGH};
        for (int way : badWays) {
            due("15: way " + way, x.seen(way, 0), UNKNOWN);
            due("15: UNKNOWN first", x.seen(way, 99), UNKNOWN);
        }
        HillWays y = with("01");
        y.exchange(0, true);
        due("15: one NET: its HILL", y.seen(0, 1), 0);
        due("15: one NET: no VALLEY", y.seen(0, 2), NONE);
        y.exchange(1, true);
        due("15: no NETS", y.seen(0, 0), 0);
        due("15: no NETS: no HILL", y.seen(0, 1), NONE);
        due("15: no NETS: no VALLEY", y.seen(0, 2), NONE);
        due("15: no NETS: none at 0", y.seen(0, 10), NONE);
        HillWays z = with("3012", "3102", "4120");
        due("15: VALLEY at the second PEERS link", z.seen(0, 2), 2);
    }

    private static void nears() {
        HillWays x = siblings();
        int[] pairs = {14, 24, 41, 35, 42, 53, 4, 43, 12, 13};
        int[] near = {3, 3, 3, 2, 3, 2, 1, 2, 1, 2};
        int[] next = {5, 3, 0, 0, 0, 0, 4, 0, 2, 2};
        for (int i = 0; i < pairs.length; i++) {
            int a = pairs[i] / 10;
            int b = pairs[i] % 10;
            due("16: NEAR from " + a + " to " + b, x.near(a, b, 0), near[i]);
            due("16: NEXT from " + a + " to " + b, x.near(a, b, 1), next[i]);
        }
        due("16: to itself", x.near(0, 0, 0), 0);
        due("16: NEXT to itself", x.near(0, 0, 1), NONE);
        due("16: not SEEN", x.near(6, 6, 0), NONE);
        due("16: to none", x.near(0, 6, 0), NONE);
        due("16: NEXT to none", x.near(0, 6, 1), NONE);
        due("16: NEXT from none", x.near(6, 0, 1), NONE);
        HillWays y = with("6203", "6103");
        due("16: NEAR by two rows", y.near(6, 0, 0), 2);
        due("16: NEXT is the least", y.near(6, 0, 1), 1);
        due("16: NEXT is the least", y.near(6, 3, 1), 1);
        // 1 and 5 are PEERS, 5 pays 2: from one side of 5 to the other each row has a VALLEY
        HillWays z = with("513", "524");
        due("16: PEERS, then PAYS", z.near(3, 4, 0), NONE);
        due("16: PEERS, then PAYS", z.near(3, 4, 1), NONE);
        due("16: down, then PEERS", z.near(4, 3, 0), NONE);
        due("16: up, then down", z.near(5, 4, 0), 2);
        due("16: up, then PEERS", z.near(3, 5, 0), 2);
        int[] bad = {8, -1, LOW, HIGH};
        for (int number : bad) {
            due("16: a = " + number, x.near(number, 0, 0), UNKNOWN);
            due("16: b = " + number, x.near(0, number, 1), UNKNOWN);
            due("16: UNKNOWN first", x.near(number, number, 7), UNKNOWN);
            due("16: what " + number, x.near(0, 0, number), OUTSIDE);
        }
        due("16: what 2", x.near(0, 1, 2), OUTSIDE);
        HillWays alone = with("01");
        alone.exchange(0, true);
        due("16: SEEN without LINKS", alone.near(1, 1, 0), 0);
        due("16: an EXCHANGE to itself", alone.near(0, 0, 0), NONE);
    }

    private static void counts() {
        HillWays x = siblings();
        x.tell(1, 2, 4);
        x.tell(2, 3, 2);
        x.tell(5, 1, 2);
        x.tell(6, 7, 3);
        x.exchange(7, true);
        write(x, "8x");
        int[] due = {2, 6, 4, 1, 1, 1, 0, 2, 1, 2, 128, 2};
        for (int what = 0; what <= 11; what++) {
            due("17: count(" + what + ")", x.count(what), due[what]);
        }
        x.drop(0);
        due("17: WAYS", x.count(0), 1);
        due("17: how often read", x.count(11), 2);
        int[] bad = {12, -1, LOW, HIGH};
        for (int what : bad) {
            due("17: count(" + what + ")", x.count(what), OUTSIDE);
        }
        due("17: WAYS with a VALLEY", with("3012", "3102", "4120", "56").count(6), 3);
    }

    private static void digests() {
        due("18: a new object", new HillWays().digest(), digestOf(new HillWays(), ""));
        HillWays x = siblings();
        x.tell(1, 2, 3);
        x.exchange(5, true);
        write(x, "8 x");
        // once: a second time would bring the object beyond its 512 calls
        long want = digestOf(x, "8 x");
        due("18: digest()", x.digest(), want);
        due("18: it changes nothing", x.digest(), want);
    }

    private static long digestOf(HillWays x, String page) {
        StringBuilder all = new StringBuilder();
        for (int net = 0; net < 8; net++) {
            for (int what = 0; what < 6; what++) {
                all.append(x.net(net, what)).append(' ');
            }
        }
        for (int place = 0; place < 8; place++) {
            all.append(x.rank(place)).append(' ');
        }
        all.append(x.top()).append(' ');
        for (int a = 0; a < 8; a++) {
            for (int b = a + 1; b < 8; b++) {
                for (int what = 0; what < 5; what++) {
                    all.append(x.link(a, b, what)).append(' ');
                }
            }
        }
        for (int pair = 0; pair < 64; pair++) {
            all.append(x.near(pair / 8, pair % 8, 0)).append(' ');
        }
        for (int place = 0; place < 4; place++) {
            all.append(x.contradicted(place)).append(' ');
        }
        for (int way = 0; way < x.count(0); way++) {
            all.append(x.seen(way, 0)).append(' ').append(x.seen(way, 1)).append(' ').append(x.seen(way, 2)).append(' ');
        }
        for (char letter : page.toCharArray()) {
            all.append((int) letter).append(' ');
        }
        for (int what = 0; what < 12; what++) {
            all.append(x.count(what)).append(' ');
        }
        long h = 1747;
        for (String number : all.toString().trim().split(" ")) {
            h = 31 * h + Long.parseLong(number);
        }
        return h;
    }
}
