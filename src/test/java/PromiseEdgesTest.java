import java.util.function.Supplier;
import java.util.function.ToIntFunction;

/** The edges that promises 1 to 18 name, one test for each sentence, by answers worked out by hand. */
public final class PromiseEdgesTest {
    private static final int NONE = Check.NONE, UNKNOWN = Check.UNKNOWN, OUTSIDE = Check.OUTSIDE;
    private static final int STATE = Check.STATE, FULL = Check.FULL;
    private static final int LOW = Check.LOW, HIGH = Check.HIGH;
    // worked out apart from the class, by the numbers that promise 18 names
    private static final long OF_A_NEW_ONE = -1628324889662854972L;
    private static final int[] NO_NETS = {-1, 8, 9, 64, LOW, HIGH};

    public static void main(String[] args) {
        newObject();
        texts();
        told();
        nets();
        links();
        all();
        refusals();
        Check.end();
    }

    private static void due(String call, long got, long want) {
        Check.due(call, got, want);
    }

    // ---- states in which a call is refused

    /** Nothing at all. */
    private static HillWays empty() {
        return new HillWays();
    }

    /** Two WAYS, an EXCHANGE, two NAMES that were told, a letter on THE PAGE. */
    private static HillWays some() {
        HillWays x = Check.siblings();
        x.exchange(6, true);
        x.tell(1, 2, 4);
        x.tell(0, 5, 1);
        x.letter('8');
        return x;
    }

    /** Twelve WAYS, and on THE PAGE six letters that are a WAY. */
    private static HillWays full() {
        HillWays x = Check.voted(7, 5);
        Check.write(x, "012345");
        return x;
    }

    private static void refusedEverywhere(String call, ToIntFunction<HillWays> made, int want) {
        Check.refused(PromiseEdgesTest::empty, call + " of a new one", made, want);
        Check.refused(PromiseEdgesTest::some, call + " of some", made, want);
        Check.refused(PromiseEdgesTest::full, call + " of a full one", made, want);
    }

    // ---- promise 1

    private static void newObject() {
        Check.sentence("1: No WAYS");
        HillWays x = new HillWays();
        for (int what = 0; what <= 11; what++) {
            due("count(" + what + ")", x.count(what), 0);
        }
        due("seen(0, 0)", x.seen(0, 0), UNKNOWN);
        due("drop(0)", x.drop(0), UNKNOWN);
        due("rank(0)", x.rank(0), NONE);
        due("top()", x.top(), 0);
        due("contradicted(0)", x.contradicted(0), NONE);
        Check.write(x, "01");
        due("the first number", x.way(), 0);

        Check.sentence("1: No WAYS, although another object has some");
        due("count(0) of the other", full().count(0), 12);
        due("count(0)", new HillWays().count(0), 0);
        due("digest()", new HillWays().digest(), OF_A_NEW_ONE);
    }

    // ---- promises 2 to 6

    private static void texts() {
        letterCounts();
        letterCodes();
        letterIsFull();
        blanks();
        faultPlaces();
        faultOfNone();
        wayNumbers();
        wayIsNone();
        wayIsFull();
        valleyStays();
        valleyOfExchanges();
        valleyNotLinked();
        valleyIsNone();
        valleyOfNoWay();
    }

    private static void letterCounts() {
        Check.sentence("2: how many THE PAGE has");
        HillWays x = new HillWays();
        for (int letters = 1; letters <= 6; letters++) {
            due("letter('0')", x.letter('0'), letters);
            due("count(9)", x.count(9), letters);
        }
    }

    private static void letterCodes() {
        Check.sentence("2: OUTSIDE: code (32 to 126)");
        HillWays x = new HillWays();
        for (int code = -300; code <= 400; code++) {
            boolean inside = code >= 32 && code <= 126;
            due("letter(" + code + ")", new HillWays().letter(code), inside ? 1 : OUTSIDE);
        }
        for (int code : new int[] {31, 127, -1, 0, 48 + 256, 48 + 65536, 48 - 256, LOW, HIGH}) {
            refusedEverywhere("letter(" + code + ")", y -> y.letter(code), OUTSIDE);
        }
        due("letter(32)", x.letter(32), 1);
        due("letter(126)", x.letter(126), 2);
    }

    private static void letterIsFull() {
        Check.sentence("2: FULL: there are 6");
        HillWays x = new HillWays();
        Check.write(x, "01234");
        due("a sixth", x.letter('5'), 6);
        due("a seventh", x.letter('6'), FULL);
        due("a seventh that is no figure", x.letter(' '), FULL);
        due("blank()", x.blank(), 6);
        due("there is room again", x.letter('6'), 1);
        Check.refused(PromiseEdgesTest::full, "letter('6')", y -> y.letter('6'), FULL);

        Check.sentence("2: OUTSIDE is told ahead of FULL");
        Check.refused(PromiseEdgesTest::full, "letter(127)", y -> y.letter(127), OUTSIDE);
    }

    private static void blanks() {
        Check.sentence("3: THE PAGE is empty: how many letters it had");
        HillWays x = new HillWays();
        for (String text : new String[] {"", "0", "~ ", "00000", "012345"}) {
            Check.write(x, text);
            due("blank() of '" + text + "'", x.blank(), text.length());
            due("blank() again", x.blank(), 0);
            due("count(9)", x.count(9), 0);
            due("fault()", x.fault(), 0);
        }
        HillWays y = Check.siblings();
        String ahead = Check.all(y);
        Check.write(y, "777");
        y.blank();
        Check.same("all but THE PAGE", Check.all(y), ahead);
    }

    private static void faultPlaces() {
        Check.sentence("4: The place (from 0) of the first letter with which, and those ahead of it, no WAY begins");
        for (int code = 32; code <= 126; code++) {
            HillWays x = new HillWays();
            x.letter(code);
            due("fault() of " + (char) code, x.fault(), code >= '0' && code <= '7' ? 1 : 0);
        }
        HillWays y = new HillWays();
        for (int place = 0; place < 6; place++) {
            StringBuilder text = new StringBuilder("012345");
            text.setCharAt(place, '8');
            Check.write(y, text.toString());
            due("fault() of " + text, y.fault(), place);
            text.setCharAt(place, place == 0 ? '5' : '0');
            Check.write(y, text.toString());
            due("fault() of " + text, y.fault(), place == 0 ? 5 : place);
        }
        String[] texts = {"88", "8008", "0088", "0108", "0180", "000000", "//////"};
        int[] places = {0, 0, 1, 2, 2, 1, 0};
        for (int i = 0; i < texts.length; i++) {
            Check.write(y, texts[i]);
            due("the first of several in " + texts[i], y.fault(), places[i]);
        }
    }

    private static void faultOfNone() {
        Check.sentence("4: how many letters it has, if there is none");
        HillWays x = new HillWays();
        for (int length = 0; length <= 6; length++) {
            Check.write(x, "765432".substring(0, length));
            due("fault() of " + length, x.fault(), length);
            due("THE PAGE stays", x.count(9), length);
        }
        HillWays y = full();
        due("no room for a WAY more", y.fault(), 6);
        y.exchange(0, true);
        due("with an EXCHANGE", y.fault(), 6);
    }

    private static void wayNumbers() {
        Check.sentence("5: THE PAGE is read as a WAY more: its number");
        HillWays x = new HillWays();
        for (int way = 0; way < 12; way++) {
            Check.write(x, way % 2 == 0 ? "70" : "654321");
            due("way()", x.way(), way);
            due("count(0)", x.count(0), way + 1);
            due("its last NET", x.seen(way, way % 2 == 0 ? 11 : 15), way % 2 == 0 ? 0 : 1);
        }
        x.drop(0);
        Check.write(x, "34");
        due("behind one that is gone", x.way(), 11);
        HillWays y = new HillWays();
        Check.exchanges(y, 0, 1);
        Check.write(y, "01");
        due("of EXCHANGES alone", y.way(), 0);
        due("seen(0, 0)", y.seen(0, 0), 0);

        Check.sentence("5: THE PAGE is empty then");
        due("count(9)", y.count(9), 0);
        due("blank()", y.blank(), 0);
        due("letter('0')", y.letter('0'), 1);
    }

    private static void wayIsNone() {
        Check.sentence("5: STATE: it is none");
        String[] none = {"", "0", "8", "00", "08", "80", "0 1", " 01", "01 ", "012344", "012340", "0-1"};
        for (String page : none) {
            Supplier<HillWays> state = () -> {
                HillWays x = Check.siblings();
                Check.write(x, page);
                return x;
            };
            Check.refused(state, "way() of '" + page + "'", HillWays::way, STATE);
        }
        Check.refused(PromiseEdgesTest::empty, "way()", HillWays::way, STATE);
        HillWays x = full();
        x.blank();
        due("STATE is told ahead of FULL, empty", x.way(), STATE);
        x.letter('0');
        due("STATE is told ahead of FULL, one letter", x.way(), STATE);
        x.letter('0');
        due("STATE is told ahead of FULL, like ones", x.way(), STATE);
    }

    private static void wayIsFull() {
        Check.sentence("5: FULL: there are 12");
        Check.refused(PromiseEdgesTest::full, "way()", HillWays::way, FULL);
        HillWays x = full();
        due("count(11)", x.count(11), 12);
        due("way()", x.way(), FULL);
        due("THE PAGE stays", x.count(9), 6);
        due("it was not read", x.count(11), 12);
        x.drop(5);
        due("there is room again", x.way(), 11);
        due("count(11)", x.count(11), 13);
        due("its last NET", x.seen(11, 15), 5);
    }

    private static void valleyStays() {
        Check.sentence("6: THE PAGE, as a row of NETS (it stays)");
        HillWays x = Check.payingTop();
        Check.write(x, "4251");
        String ahead = Check.all(x);
        due("valley()", x.valley(), 2);
        due("valley() again", x.valley(), 2);
        Check.same("behind it", Check.all(x), ahead);
        due("count(9)", x.count(9), 4);
        due("no WAY more", x.count(0), 2);
    }

    private static void valleyOfExchanges() {
        Check.sentence("6: an EXCHANGE is LINKED with none");
        HillWays x = Check.with("01234");
        Check.exchanges(x, 1);
        due("0 and 2 are LINKED", Check.valley(x, "02"), NONE);
        due("it is not left out of THE PAGE", Check.valley(x, "012"), 0);
        due("at the end", Check.valley(x, "021"), 1);
        due("at the first place", Check.valley(x, "10"), 0);
        Check.exchanges(x, 0);
        due("two of them", Check.valley(x, "01"), 0);
        x.exchange(0, false);
        x.exchange(1, false);
        due("none any more", Check.valley(x, "012"), NONE);
    }

    private static void valleyNotLinked() {
        Check.sentence("6: or at which both are not LINKED");
        due("no WAYS at all", Check.valley(new HillWays(), "01"), 0);
        HillWays x = Check.siblings();
        due("the first LINK", Check.valley(x, "67"), 0);
        due("the last one of six NETS", Check.valley(x, "123046"), 4);
        due("one NET is not SEEN", Check.valley(x, "06"), 0);
        due("both are SEEN", Check.valley(x, "02"), 0);
        due("ahead of a VALLEY", Check.valley(x, "45123"), 0);
        due("ahead of a VALLEY, behind a LINK of NAME 2", Check.valley(x, "0523"), 1);
        due("behind a VALLEY", Check.valley(x, "51237"), 2);
    }

    private static void valleyIsNone() {
        Check.sentence("6: NONE: there is none such");
        HillWays x = Check.siblings();
        for (String text : new String[] {"12", "21", "12304", "40321", "21504", "40512", "3051"}) {
            due("valley() of " + text, Check.valley(x, text), NONE);
        }
        HillWays y = Check.chain();
        due("six NETS", Check.valley(y, "745016"), NONE);
        due("six NETS", Check.valley(y, "236105"), NONE);
    }

    private static void valleyOfNoWay() {
        Check.sentence("6: STATE: it is no WAY");
        HillWays x = Check.siblings();
        for (String text : new String[] {"", "0", "6", "8", "00", "12301", "12308", "1 2", "111111"}) {
            due("valley() of '" + text + "'", Check.valley(x, text), STATE);
            due("THE PAGE stays", x.count(9), text.length());
        }
        Check.refused(PromiseEdgesTest::empty, "valley()", HillWays::valley, STATE);
        Check.refused(PromiseEdgesTest::some, "valley()", HillWays::valley, STATE);
        due("full of WAYS it is one", full().valley(), 0);
    }

    // ---- promises 7 to 9

    private static void told() {
        dropsRenumber();
        dropsLeave();
        dropsUnknown();
        exchangeWas();
        exchangeUnknown();
        tellNames();
        tellTurned();
        tellNoMore();
        tellUnknown();
        tellOutside();
    }

    private static void dropsRenumber() {
        Check.sentence("7: A WAY is gone (those behind it have a number less)");
        String[] ways = {"012345", "67", "7654", "123", "345670"};
        for (int gone = 0; gone < ways.length; gone++) {
            HillWays x = Check.with(ways);
            due("drop(" + gone + ")", x.drop(gone), 4);
            for (int way = 0; way < 4; way++) {
                String left = ways[way < gone ? way : way + 1];
                due("seen(" + way + ", 0)", x.seen(way, 0), left.length());
                for (int place = 0; place < 6; place++) {
                    int net = place < left.length() ? left.charAt(place) - '0' : NONE;
                    due("NET " + place + " of WAY " + way + " without " + gone, x.seen(way, 10 + place), net);
                }
            }
            due("seen(4, 0)", x.seen(4, 0), UNKNOWN);
        }
        HillWays y = Check.with("01", "23");
        y.drop(1);
        due("its LINK is gone", y.link(2, 3, 0), 0);
        due("its NETS are not SEEN", y.rank(2), NONE);
        due("THE LINK of the other is not", y.link(0, 1, 0), 3);
    }

    private static void dropsLeave() {
        Check.sentence("7: how many are left");
        HillWays x = full();
        for (int left = 11; left >= 0; left--) {
            due("drop of the last one", x.drop(left), left);
        }
        due("none is left", x.drop(0), UNKNOWN);
        due("count(11)", x.count(11), 12);
        due("THE PAGE stays", x.way(), 0);
        due("from 0 again", x.count(0), 1);
    }

    private static void dropsUnknown() {
        Check.sentence("7: UNKNOWN: way");
        for (int way : new int[] {-1, 12, 13, LOW, HIGH}) {
            refusedEverywhere("drop(" + way + ")", x -> x.drop(way), UNKNOWN);
        }
        Check.refused(PromiseEdgesTest::empty, "drop(0)", x -> x.drop(0), UNKNOWN);
        Check.refused(PromiseEdgesTest::some, "drop(2)", x -> x.drop(2), UNKNOWN);
        due("the last one there is", some().drop(1), 1);
        due("the last one of twelve", full().drop(11), 11);
    }

    private static void exchangeWas() {
        Check.sentence("8: A NET is an EXCHANGE, or not: whether it was (1, 0)");
        HillWays x = Check.siblings();
        String ahead = Check.all(x);
        for (int net = 0; net < 8; net++) {
            due("not, and it was not", x.exchange(net, false), 0);
            due("it was not", x.exchange(net, true), 0);
            due("it was", x.exchange(net, true), 1);
            due("it alone", x.count(10), 1 << net);
            due("it was", x.exchange(net, false), 1);
            due("it was not", x.exchange(net, false), 0);
        }
        Check.same("all as ahead of it", Check.all(x), ahead);
        Check.exchanges(x, 7);
        due("in no WAY", x.count(1), 6);
        due("net(7, 5)", x.net(7, 5), 1);
    }

    private static void exchangeUnknown() {
        Check.sentence("8: UNKNOWN: net");
        for (int net : new int[] {-1, 8, 32, 38, -26, LOW, HIGH}) {
            refusedEverywhere("exchange(" + net + ", true)", x -> x.exchange(net, true), UNKNOWN);
            refusedEverywhere("exchange(" + net + ", false)", x -> x.exchange(net, false), UNKNOWN);
        }
    }

    private static void tellNames() {
        Check.sentence("9: What the NAME from a to b is in truth is told (1 to 4): what was told (0: nothing)");
        HillWays x = Check.siblings();
        String link = x.link(0, 7, 0) + " " + x.link(0, 3, 0);
        int was = 0;
        for (int name = 1; name <= 4; name++) {
            due("tell(0, 7, " + name + ")", x.tell(0, 7, name), was);
            due("tell(0, 3, " + name + ")", x.tell(0, 3, name), was);
            was = name;
        }
        due("the same again", x.tell(0, 7, 4), 4);
        Check.same("NAMES stay", x.link(0, 7, 0) + " " + x.link(0, 3, 0), link);
        due("another pair", x.link(1, 7, 4), 0);
        x.drop(0);
        x.drop(0);
        due("it is told without any WAY", x.tell(0, 3, 0), 4);
    }

    private static void tellTurned() {
        Check.sentence("9: from b to a it is told with it, 1 as 2, 2 as 1");
        int[] turned = {0, 2, 1, 3, 4};
        for (int name = 1; name <= 4; name++) {
            HillWays x = new HillWays();
            due("tell(7, 0, " + name + ")", x.tell(7, 0, name), 0);
            due("link(7, 0, 4)", x.link(7, 0, 4), name);
            due("link(0, 7, 4)", x.link(0, 7, 4), turned[name]);
            due("tell(0, 7, " + name + ")", x.tell(0, 7, name), turned[name]);
            due("link(7, 0, 4)", x.link(7, 0, 4), turned[name]);
        }
    }

    private static void tellNoMore() {
        Check.sentence("9: 0: it is not told any more");
        HillWays x = new HillWays();
        String ahead = Check.all(x);
        due("it was not told", x.tell(1, 2, 0), 0);
        x.tell(1, 2, 1);
        due("it is not any more", x.tell(2, 1, 0), 2);
        due("link(1, 2, 4)", x.link(1, 2, 4), 0);
        due("link(2, 1, 4)", x.link(2, 1, 4), 0);
        Check.same("all as ahead of it", Check.all(x), ahead);
    }

    private static void tellUnknown() {
        Check.sentence("9: UNKNOWN: a, b (a is b, too)");
        for (int net : NO_NETS) {
            refusedEverywhere("tell(" + net + ", 0, 1)", x -> x.tell(net, 0, 1), UNKNOWN);
            refusedEverywhere("tell(0, " + net + ", 1)", x -> x.tell(0, net, 1), UNKNOWN);
            refusedEverywhere("tell(" + net + ", " + net + ", 1)", x -> x.tell(net, net, 1), UNKNOWN);
        }
        for (int net = 0; net < 8; net++) {
            int same = net;
            refusedEverywhere("tell(" + net + ", " + net + ", 0)", x -> x.tell(same, same, 0), UNKNOWN);
        }

        Check.sentence("9: UNKNOWN is told ahead of OUTSIDE");
        due("a", new HillWays().tell(8, 0, 5), UNKNOWN);
        due("b", new HillWays().tell(0, 8, -1), UNKNOWN);
        due("a is b", new HillWays().tell(0, 0, 5), UNKNOWN);
    }

    private static void tellOutside() {
        Check.sentence("9: OUTSIDE: name");
        for (int name : new int[] {-1, 5, LOW, HIGH}) {
            refusedEverywhere("tell(1, 2, " + name + ")", x -> x.tell(1, 2, name), OUTSIDE);
            refusedEverywhere("tell(7, 0, " + name + ")", x -> x.tell(7, 0, name), OUTSIDE);
        }
    }

    // ---- promises 10 to 12

    private static void nets() {
        netEdges();
        netNotSeen();
        netRefused();
        rankEdges();
        topEdges();
    }

    private static void netEdges() {
        Check.sentence("10: DEGREE, TRANSIT, place by RANK, whether it is in TOP, CONE, whether it is an EXCHANGE");
        HillWays x = Check.allLinked();
        int[] transit = {6, 6, 6, 4, 4, 4, 4, 6};
        int[] place = {0, 1, 2, 4, 5, 6, 7, 3};
        for (int net = 0; net < 8; net++) {
            due("DEGREE of " + net, x.net(net, 0), 7);
            due("TRANSIT of " + net, x.net(net, 1), transit[net]);
            due("place of " + net, x.net(net, 2), place[net]);
            due("in TOP " + net, x.net(net, 3), 1);
            due("CONE of " + net, x.net(net, 4), 1 << net);
            due("EXCHANGE " + net, x.net(net, 5), 0);
        }
        HillWays y = Check.with("1726", "3745");
        due("CONE of 7: all, but not 0 and not 2, which is in TOP", y.net(7, 4), 255 & ~1 & ~4 & ~64);
        due("CONE of 2", y.net(2, 4), 4 | 64);
    }

    private static void netNotSeen() {
        Check.sentence("10: NONE: it is not SEEN");
        HillWays x = Check.with("01", "12");
        due("in no WAY", x.net(7, 2), NONE);
        due("SEEN", x.net(2, 2), 2);
        Check.exchanges(x, 2);
        due("an EXCHANGE", x.net(2, 2), NONE);
        x.exchange(2, false);
        due("SEEN again", x.net(2, 2), 2);
        x.drop(1);
        due("its WAY is gone", x.net(2, 2), NONE);
        for (int what : new int[] {0, 1, 3, 5}) {
            due("net(2, " + what + ")", x.net(2, what), 0);
        }
        due("net(2, 4)", x.net(2, 4), 4);
    }

    private static void netRefused() {
        Check.sentence("10: UNKNOWN: net");
        for (int net : NO_NETS) {
            refusedEverywhere("net(" + net + ", 0)", x -> x.net(net, 0), UNKNOWN);
            refusedEverywhere("net(" + net + ", 5)", x -> x.net(net, 5), UNKNOWN);
        }

        Check.sentence("10: OUTSIDE: what");
        for (int what : new int[] {-1, 6, LOW, HIGH}) {
            refusedEverywhere("net(0, " + what + ")", x -> x.net(0, what), OUTSIDE);
            refusedEverywhere("net(7, " + what + ")", x -> x.net(7, what), OUTSIDE);
        }

        Check.sentence("10: UNKNOWN is told ahead of OUTSIDE");
        due("net(8, 6)", new HillWays().net(8, 6), UNKNOWN);
        due("net(-1, -1)", new HillWays().net(-1, -1), UNKNOWN);
    }

    private static void rankEdges() {
        Check.sentence("11: The NET at a place by RANK (from 0)");
        HillWays x = Check.allLinked();
        int[] nets = {0, 1, 2, 7, 3, 4, 5, 6};
        for (int place = 0; place < 8; place++) {
            due("rank(" + place + ")", x.rank(place), nets[place]);
        }

        Check.sentence("11: NONE: there are not so many (below 0, too)");
        for (int place : new int[] {-1, 8, LOW, HIGH}) {
            refusedEverywhere("rank(" + place + ")", y -> y.rank(place), NONE);
            due("rank(" + place + ")", x.rank(place), NONE);
        }
        due("no WAYS", new HillWays().rank(0), NONE);
        HillWays y = Check.with("67");
        due("the last one", y.rank(1), 7);
        due("one more", y.rank(2), NONE);
        Check.exchanges(y, 6);
        due("the only one", y.rank(0), 7);
        due("it was the last one", y.rank(1), NONE);
    }

    private static void topEdges() {
        Check.sentence("12: TOP, as bits");
        due("none", new HillWays().top(), 0);
        due("the least two", Check.with("01").top(), 3);
        due("the greatest two", Check.with("67").top(), 192);
        due("all", Check.allLinked().top(), 255);
        HillWays x = Check.with("07");
        Check.exchanges(x, 0);
        due("the greatest alone", x.top(), 128);
        HillWays y = Check.with("07");
        Check.exchanges(y, 7);
        due("the least alone", y.top(), 1);
    }

    // ---- promises 13 to 16

    private static void links() {
        linkIsNone();
        linkEdges();
        linkRefused();
        contradictedOrder();
        contradictedNone();
        seenSizes();
        seenHills();
        seenValleys();
        seenPlaces();
        seenRefused();
        nearEdges();
        nearRefused();
    }

    private static void linkIsNone() {
        Check.sentence("13: (0: there is no LINK)");
        HillWays x = Check.with("012");
        for (int what = 0; what <= 4; what++) {
            due("in one WAY, not side by side", x.link(0, 2, what), 0);
            due("one is not SEEN", x.link(0, 7, what), 0);
            due("both are not", x.link(7, 6, what), 0);
            due("no WAYS", new HillWays().link(0, 7, what), 0);
        }
        Check.exchanges(x, 1);
        due("with an EXCHANGE", x.link(0, 1, 0), 0);
        due("over an EXCHANGE", x.link(0, 2, 0), 3);
        x.drop(0);
        due("the WAY is gone", x.link(0, 2, 0), 0);
        due("the WAY is gone", x.link(0, 2, 3), 0);
    }

    private static void linkEdges() {
        Check.sentence("13: VOTES for a PAYS b, for b PAYS a, in how many WAYS it is, what was told of it (0)");
        HillWays x = Check.voted(11, 1);
        int[] forward = {1, 11, 1, 12, 0};
        int[] backward = {2, 1, 11, 12, 0};
        for (int what = 0; what <= 4; what++) {
            due("link(1, 2, " + what + ")", x.link(1, 2, what), forward[what]);
            due("link(2, 1, " + what + ")", x.link(2, 1, what), backward[what]);
        }
        due("in one WAY of twelve", x.link(1, 6, 3), 1);
        due("in three", x.link(0, 7, 3), 3);
        x.tell(1, 2, 2);
        due("told from 1 to 2", x.link(1, 2, 4), 2);
        due("told from 2 to 1", x.link(2, 1, 4), 1);
        due("NAME is not what was told", x.link(1, 2, 0), 1);
        HillWays y = new HillWays();
        y.tell(0, 7, 3);
        due("told without a LINK", y.link(7, 0, 4), 3);
    }

    private static void linkRefused() {
        Check.sentence("13: UNKNOWN: a, b (a is b, too)");
        for (int net : NO_NETS) {
            refusedEverywhere("link(" + net + ", 0, 0)", x -> x.link(net, 0, 0), UNKNOWN);
            refusedEverywhere("link(0, " + net + ", 4)", x -> x.link(0, net, 4), UNKNOWN);
            refusedEverywhere("link(" + net + ", " + net + ", 0)", x -> x.link(net, net, 0), UNKNOWN);
        }
        for (int net = 0; net < 8; net++) {
            for (int what = 0; what <= 4; what++) {
                due("link(" + net + ", " + net + ", " + what + ")", full().link(net, net, what), UNKNOWN);
            }
        }

        Check.sentence("13: OUTSIDE: what");
        for (int what : new int[] {-1, 5, LOW, HIGH}) {
            refusedEverywhere("link(0, 3, " + what + ")", x -> x.link(0, 3, what), OUTSIDE);
            refusedEverywhere("link(7, 6, " + what + ")", x -> x.link(7, 6, what), OUTSIDE);
        }

        Check.sentence("13: UNKNOWN is told ahead of OUTSIDE");
        due("a", new HillWays().link(8, 0, 5), UNKNOWN);
        due("b", new HillWays().link(0, 8, -1), UNKNOWN);
        due("a is b", new HillWays().link(0, 0, 5), UNKNOWN);
    }

    private static void contradictedOrder() {
        Check.sentence("14: those first of which the lesser number of VOTES is greater");
        HillWays x = Check.with(Check.contradictions());
        due("4 and 6, two each", x.contradicted(0), 38);
        due("1 and 7, one each", x.contradicted(1), 15);

        Check.sentence("14: of like ones by 8 times the lesser NET, and the greater one");
        due("2 and 7, one each", x.contradicted(2), 23);
        Check.read(x, "27304");
        Check.read(x, "27304");
        due("link(2, 7, 1)", x.link(2, 7, 1), 3);
        due("the greater number does not matter", x.contradicted(1), 15);
        due("2 and 7, three and one", x.contradicted(2), 23);
        Check.read(x, "17304");
        Check.read(x, "71304");
        due("1 and 7, two each", x.contradicted(0), 15);
        due("4 and 6, two each", x.contradicted(1), 38);
        due("2 and 7", x.contradicted(2), 23);
        due("the least NETS, 0 and 2", Check.with("02613", "20614", "02615", "20617").contradicted(0), 2);
        due("the greatest NETS, 6 and 7", Check.with("67103", "76104", "67105", "76102").contradicted(0), 55);
        due("six each", Check.voted(6, 6).contradicted(0), 10);
        due("one and eleven", Check.voted(1, 11).contradicted(0), 10);
    }

    private static void contradictedNone() {
        Check.sentence("14: NONE: there are not so many (below 0, too)");
        HillWays x = Check.with(Check.contradictions());
        due("the last one", x.contradicted(2), 23);
        due("one more", x.contradicted(3), NONE);
        for (int place : new int[] {-1, 27, 28, LOW, HIGH}) {
            refusedEverywhere("contradicted(" + place + ")", y -> y.contradicted(place), NONE);
            due("contradicted(" + place + ")", x.contradicted(place), NONE);
        }
        due("no WAYS", new HillWays().contradicted(0), NONE);
        due("PEERS alone", Check.allLinked().contradicted(0), NONE);
        due("one side has no VOTES", Check.voted(12, 0).contradicted(0), NONE);
    }

    private static void seenSizes() {
        Check.sentence("15: how many NETS it has (EXCHANGES left out)");
        HillWays x = Check.with("012345", "67");
        due("six", x.seen(0, 0), 6);
        due("two", x.seen(1, 0), 2);
        for (int net = 0; net < 6; net++) {
            Check.exchanges(x, net);
            due("without " + (net + 1), x.seen(0, 0), 5 - net);
        }
        due("the other has none of them", x.seen(1, 0), 2);
    }

    private static void seenHills() {
        Check.sentence("15: at which place of these its HILL is (from 0; NONE: there are no NETS)");
        HillWays x = Check.chain();
        due("place 1", x.seen(0, 1), 1);
        due("place 0", x.seen(1, 1), 0);
        Check.exchanges(x, 1, 0, 5, 4);
        due("7 alone", x.seen(0, 1), 0);
        due("3 of 632", x.seen(1, 1), 1);
        Check.exchanges(x, 7);
        due("none", x.seen(0, 1), NONE);
        HillWays y = Check.with("765430", "102", "403");
        due("the last of six", y.seen(0, 1), 5);
    }

    private static void seenValleys() {
        Check.sentence("15: at which LINK it has a VALLEY (NONE)");
        HillWays x = Check.with("3012", "3102", "4120");
        due("top()", x.top(), 7);
        for (int way = 0; way < 3; way++) {
            due("NAMES 1, 3, 3", x.seen(way, 2), 2);
        }
        Check.exchanges(x, 3);
        due("NAMES 3, 3", x.seen(0, 2), 1);
        due("the other has its first NET", x.seen(2, 2), 2);
        Check.exchanges(x, 0);
        due("NAME 3", x.seen(0, 2), NONE);
        Check.exchanges(x, 1);
        due("one NET", x.seen(0, 2), NONE);
        Check.exchanges(x, 2);
        due("no NET", x.seen(0, 2), NONE);
        due("six NETS without", Check.with("012345").seen(0, 2), NONE);
    }

    private static void seenPlaces() {
        Check.sentence("15: 10 to 15 the NET at that place (from 10 on; NONE)");
        HillWays x = Check.with("765432", "01");
        for (int place = 0; place < 6; place++) {
            due("seen(0, " + (10 + place) + ")", x.seen(0, 10 + place), 7 - place);
            due("seen(1, " + (10 + place) + ")", x.seen(1, 10 + place), place < 2 ? place : NONE);
        }
        Check.exchanges(x, 7, 4);
        int[] left = {6, 5, 3, 2, NONE, NONE};
        for (int place = 0; place < 6; place++) {
            due("seen(0, " + (10 + place) + ")", x.seen(0, 10 + place), left[place]);
        }
        Check.exchanges(x, 0, 1);
        due("no NETS", x.seen(1, 10), NONE);
    }

    private static void seenRefused() {
        Check.sentence("15: UNKNOWN: way");
        for (int way : new int[] {-1, 12, LOW, HIGH}) {
            refusedEverywhere("seen(" + way + ", 0)", x -> x.seen(way, 0), UNKNOWN);
            refusedEverywhere("seen(" + way + ", 15)", x -> x.seen(way, 15), UNKNOWN);
        }
        due("no WAYS", new HillWays().seen(0, 0), UNKNOWN);
        due("one more than there are", some().seen(2, 0), UNKNOWN);
        due("the last one", some().seen(1, 0), 5);

        Check.sentence("15: OUTSIDE: what");
        for (int what : new int[] {-1, 3, 4, 8, 9, 16, 17, LOW, LOW + 9, LOW + 10, HIGH}) {
            Check.refused(PromiseEdgesTest::some, "seen(1, " + what + ")", x -> x.seen(1, what), OUTSIDE);
            Check.refused(PromiseEdgesTest::full, "seen(11, " + what + ")", x -> x.seen(11, what), OUTSIDE);
        }

        Check.sentence("15: UNKNOWN is told ahead of OUTSIDE");
        due("seen(0, 3)", new HillWays().seen(0, 3), UNKNOWN);
        due("seen(12, 16)", full().seen(12, 16), UNKNOWN);
    }

    private static void nearEdges() {
        Check.sentence("16: NEXT (1; NONE: a is b, too)");
        HillWays x = Check.chain();
        for (int net = 0; net < 8; net++) {
            due("near(" + net + ", " + net + ", 0)", x.near(net, net, 0), 0);
            due("near(" + net + ", " + net + ", 1)", x.near(net, net, 1), NONE);
        }
        due("one LINK: b itself", x.near(0, 1, 1), 1);
        due("seven LINKS", x.near(7, 2, 1), 4);

        Check.sentence("16: NEAR, NEXT: NONE");
        HillWays y = Check.payingTop();
        due("each row has a VALLEY", y.near(3, 4, 0), NONE);
        due("each row has a VALLEY", y.near(3, 4, 1), NONE);
        due("b is not SEEN", y.near(3, 0, 1), NONE);
        due("a is not SEEN", y.near(0, 3, 1), NONE);
        due("a is b and is not SEEN", y.near(0, 0, 1), NONE);
        due("no WAYS", new HillWays().near(0, 7, 0), NONE);
        due("no WAYS", new HillWays().near(7, 0, 1), NONE);
        Check.exchanges(y, 1);
        due("an EXCHANGE", y.near(3, 1, 0), NONE);
        due("an EXCHANGE", y.near(1, 3, 1), NONE);
    }

    private static void nearRefused() {
        Check.sentence("16: UNKNOWN: a, b");
        for (int net : NO_NETS) {
            for (int what = 0; what <= 1; what++) {
                int asked = what;
                refusedEverywhere("near(" + net + ", 0, " + what + ")", x -> x.near(net, 0, asked), UNKNOWN);
                refusedEverywhere("near(0, " + net + ", " + what + ")", x -> x.near(0, net, asked), UNKNOWN);
                refusedEverywhere("near of " + net + " to itself", x -> x.near(net, net, asked), UNKNOWN);
            }
        }

        Check.sentence("16: OUTSIDE: what");
        for (int what : new int[] {-1, 2, LOW, HIGH}) {
            refusedEverywhere("near(0, 3, " + what + ")", x -> x.near(0, 3, what), OUTSIDE);
            refusedEverywhere("near(7, 7, " + what + ")", x -> x.near(7, 7, what), OUTSIDE);
        }

        Check.sentence("16: UNKNOWN is told ahead of OUTSIDE");
        due("a", new HillWays().near(8, 0, 2), UNKNOWN);
        due("b", new HillWays().near(0, 8, -1), UNKNOWN);
    }

    // ---- promises 17 and 18

    private static void all() {
        countsOfMost();
        countsOfTold();
        countsOfVotes();
        countsRead();
        countOutside();
        digestWraps();
        digestParts();
        digestWrittenOut();
    }

    private static void countsOfMost() {
        Check.sentence("17: how many WAYS, LINKS, PEERS, WAYS with a VALLEY, letters, EXCHANGES: the most");
        HillWays x = Check.allLinked();
        int[] counts = {8, 28, 0, 28, 0, 0, 8, 0, 0, 0, 0, 8};
        for (int what = 0; what <= 11; what++) {
            due("count(" + what + ")", x.count(what), counts[what]);
        }
        HillWays y = new HillWays();
        for (int way = 0; way < 12; way++) {
            Check.read(y, new String[] {"012", "120", "201"}[way % 3]);
        }
        due("WAYS", y.count(0), 12);
        due("WAYS with a VALLEY", y.count(6), 12);
        Check.write(y, "888888");
        due("letters", y.count(9), 6);
        Check.exchanges(y, 0, 7);
        due("EXCHANGES, as bits", y.count(10), 129);
        Check.exchanges(y, 1, 2, 3, 4, 5, 6);
        due("EXCHANGES, as bits", y.count(10), 255);
        due("LINKS", y.count(1), 0);
        due("WAYS with a VALLEY", y.count(6), 0);
        due("WAYS", y.count(0), 12);
    }

    private static void countsOfTold() {
        Check.sentence("17: 7 LINKS of which the NAME is as was told, 8 of which it is another one");
        HillWays x = Check.allLinked();
        int told = 0;
        for (int a = 0; a < 8; a++) {
            for (int b = a + 1; b < 8; b++) {
                x.tell(b, a, 3);
                told++;
                due("right", x.count(7), told);
            }
        }
        due("another one", x.count(8), 0);
        x.tell(0, 7, 4);
        due("right", x.count(7), 27);
        due("another one", x.count(8), 1);
        x.tell(0, 7, 0);
        due("right, one is not told", x.count(7), 27);
        due("another one, one is not told", x.count(8), 0);
        HillWays y = Check.voted(2, 1);
        y.tell(1, 2, 1);
        due("told as it is", y.count(7), 1);
        y.tell(2, 1, 1);
        due("told the other way round", y.count(8), 1);
        due("told the other way round", y.count(7), 0);
        y.tell(2, 1, 2);
        due("told from the other end", y.count(7), 1);
        y.tell(4, 5, 3);
        due("there is no LINK", y.count(7) + y.count(8), 1);
        Check.exchanges(y, 1);
        due("there is no LINK any more", y.count(7) + y.count(8), 0);
    }

    private static void countsOfVotes() {
        Check.sentence("17: 2 of NAME 1 or 2, 4 SIBLINGS, 5 CONTRADICTED");
        int[][] votes = {{2, 1}, {1, 2}, {1, 1}, {6, 6}, {1, 0}, {0, 1}};
        int[] siblings = {0, 0, 1, 1, 0, 0};
        int[] contradicted = {1, 1, 1, 1, 0, 0};
        for (int i = 0; i < votes.length; i++) {
            HillWays x = Check.voted(votes[i][0], votes[i][1]);
            due("SIBLINGS", x.count(4), siblings[i]);
            due("CONTRADICTED", x.count(5), contradicted[i]);
            due("all but the one of PEERS", x.count(2), x.count(1) - 1 - siblings[i]);
            due("PEERS", x.count(3), 1);
        }
        due("LINKS of NAME 1 and of NAME 2", Check.chain().count(2), 6);
        due("three of them", Check.with(Check.contradictions()).count(5), 3);
        due("0 and 2", Check.with("02613", "20614").count(5), 1);
        due("6 and 7", Check.with("67103", "76104").count(5), 1);
    }

    private static void countsRead() {
        Check.sentence("17: 11 how often a WAY was read");
        HillWays x = new HillWays();
        due("way() that is refused", x.way(), STATE);
        due("not read", x.count(11), 0);
        for (int read = 1; read <= 30; read++) {
            Check.read(x, "01");
            due("read", x.count(11), read);
            x.drop(0);
            due("gone, but it was read", x.count(11), read);
        }
        due("count(0)", x.count(0), 0);
    }

    private static void countOutside() {
        Check.sentence("17: OUTSIDE");
        for (int what : new int[] {-1, 12, 13, LOW, HIGH}) {
            refusedEverywhere("count(" + what + ")", x -> x.count(what), OUTSIDE);
        }
        due("the least", new HillWays().count(0), 0);
        due("the greatest", new HillWays().count(11), 0);
    }

    private static void digestWraps() {
        Check.sentence("18: as longs, wrapping");
        due("a new object", new HillWays().digest(), OF_A_NEW_ONE);
        HillWays x = Check.siblings();
        long first = x.digest();
        due("it changes nothing", x.digest(), first);
    }

    private static void digestParts() {
        Check.sentence("18: each letter of THE PAGE by its code; what count() tells for 0 to 11");
        long none = new HillWays().digest();
        HillWays x = Check.with("01");
        x.drop(0);
        due("count(11) comes last", x.digest() - none, 1);
        Check.read(x, "67");
        x.drop(0);
        due("count(11) comes last", x.digest() - none, 2);
        HillWays y = new HillWays();
        y.letter(' ');
        due("the code, and count(9)", y.digest(), 31 * none + power(12) * ' ' + power(2));
        long blank = y.digest();
        y.blank();
        y.letter('~');
        due("a letter is twelve numbers ahead of the end", y.digest() - blank, power(12) * ('~' - ' '));
        HillWays z = new HillWays();
        z.letter('~');
        z.letter(' ');
        long turned = z.digest();
        z.blank();
        z.letter(' ');
        z.letter('~');
        due("the letters in order", turned - z.digest(), power(13) * ('~' - ' ') + power(12) * (' ' - '~'));

        Check.sentence("18: of each a, then each b above it, link() for 0 to 4");
        HillWays told = new HillWays();
        told.tell(7, 6, 1);
        // behind link(6, 7, 4): 64 of near(), 4 of contradicted(), 12 of count()
        due("link(6, 7, 4) is the last one", told.digest() - none, power(80) * 2);
        told.tell(7, 6, 0);
        told.tell(1, 0, 1);
        due("link(0, 1, 4) is the fifth one", told.digest() - none, power(80 + 135) * 2);

        Check.sentence("18: of each NET net() for 0 to 5");
        HillWays exchange = new HillWays();
        exchange.exchange(7, true);
        // behind net(7, 5): 8 of rank(), top(), 140 of link(), and the 80; count(10) is the last but one
        due("net(7, 5) and count(10)", exchange.digest() - none, power(80 + 149) + power(1) * 128);
    }

    private static void digestWrittenOut() {
        Check.sentence("18: h is 1747, then for each of these numbers, in order, 31 times h, and it");
        HillWays x = Check.siblings();
        x.tell(2, 1, 4);
        x.exchange(6, true);
        Check.write(x, "8~");
        int[] nets = {3, 3, 0, 1, 51, 0, 2, 2, 1, 0, 2, 0, 2, 2, 2, 0, 4, 0, 2, 2, 3, 1, 12, 0,
            1, 0, 5, 0, 16, 0, 2, 2, 4, 0, 34, 0, 0, 0, NONE, 0, 64, 1, 0, 0, NONE, 0, 128, 0};
        int[] ranks = {0, 1, 2, 3, 5, 4, NONE, NONE, 9};
        long h = fold(fold(1747, nets), ranks);
        int[][] linked = new int[64][5];
        linked[3] = new int[] {3, 0, 0, 1, 0};
        linked[4] = new int[] {2, 0, 2, 2, 0};
        linked[5] = new int[] {2, 0, 1, 1, 0};
        linked[8 + 2] = new int[] {4, 1, 1, 2, 4};
        linked[8 + 5] = new int[] {1, 1, 0, 1, 0};
        linked[16 + 3] = new int[] {1, 1, 0, 1, 0};
        for (int pair = 0; pair < 64; pair++) {
            h = pair % 8 > pair / 8 ? fold(h, linked[pair]) : h;
        }
        int[][] near = {{0, 2, 2, 1, 1, 1, NONE, NONE}, {2, 0, 1, 2, 3, 1, NONE, NONE},
            {2, 1, 0, 1, 3, 2, NONE, NONE}, {1, 2, 1, 0, 2, 2, NONE, NONE},
            {1, 3, 3, 2, 0, 2, NONE, NONE}, {1, 1, 2, 2, 2, 0, NONE, NONE},
            {NONE, NONE, NONE, NONE, NONE, NONE, NONE, NONE}, {NONE, NONE, NONE, NONE, NONE, NONE, NONE, NONE}};
        for (int[] row : near) {
            h = fold(h, row);
        }
        h = fold(h, 10, NONE, NONE, NONE);
        h = fold(h, 5, 3, NONE, 5, 3, NONE);
        h = fold(h, '8', '~');
        h = fold(h, 2, 6, 4, 1, 1, 1, 0, 1, 0, 2, 64, 2);
        due("digest()", x.digest(), h);
    }

    private static long fold(long start, int... numbers) {
        long h = start;
        for (int number : numbers) {
            h = 31 * h + number;
        }
        return h;
    }

    private static long power(int times) {
        long product = 1;
        for (int i = 0; i < times; i++) {
            product *= 31;
        }
        return product;
    }

    // ---- refusals

    private static void refusals() {
        Check.sentence("Refusals change nothing: many of them, one behind the other");
        HillWays x = some();
        x.letter(127);
        x.way();
        x.valley();
        x.drop(2);
        x.exchange(8, true);
        x.tell(0, 0, 1);
        x.tell(0, 1, 5);
        x.net(0, 6);
        x.link(0, 1, 5);
        x.seen(0, 16);
        x.near(0, 1, 2);
        x.count(12);
        Check.same("some", Check.all(x), Check.all(some()));
        HillWays y = full();
        y.letter('6');
        y.letter(31);
        y.way();
        y.way();
        y.drop(12);
        Check.same("full", Check.all(y), Check.all(full()));
    }
}
