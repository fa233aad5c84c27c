/** The edges that the document names under its terms, one test for each sentence, by answers worked out by hand. */
public final class TermEdgesTest {
    private static final int NONE = Check.NONE, UNKNOWN = Check.UNKNOWN, STATE = Check.STATE, FULL = Check.FULL;

    public static void main(String[] args) {
        netsAreNoughtToSeven();
        wayHasTwoToSixNets();
        wayHasUnlikeFigures();
        waysAreTwelveAtMost();
        noExchangesAtFirst();
        exchangesAreLeftOut();
        exchangesAreLeftOutAtTheEnds();
        allAreExchanges();
        seenWithoutLinks();
        degrees();
        transits();
        transitOfEnds();
        rankByTransit();
        rankByDegree();
        rankByNumber();
        topHasTheFirst();
        topOfMostNets();
        topOfGreatestSum();
        topOfLeastBits();
        topIsEmpty();
        hillAtTheEnds();
        votesUpToTheHill();
        votesBehindTheHill();
        votesNotInTop();
        namesByVotes();
        namesAsMany();
        namesOfPeers();
        contradictedByOneVote();
        valleyBehindDown();
        valleyBehindPeers();
        valleyFarBehind();
        valleyIsTheFirst();
        siblingsDoNotMatter();
        coneOfItselfAlone();
        coneOfAll();
        coneOfARing();
        nearIsFewest();
        nearIsLongest();
        nearIsNone();
        nearOfItself();
        nextIsTheLeast();
        lastOfTheCalls();
        Check.end();
    }

    private static void due(String call, long got, long want) {
        Check.due(call, got, want);
    }

    // ---- nets, ways, exchanges

    private static void netsAreNoughtToSeven() {
        Check.sentence("NETS are 0 to 7");
        HillWays x = new HillWays();
        for (int net : new int[] {0, 7}) {
            due("net(" + net + ", 0)", x.net(net, 0), 0);
            due("exchange(" + net + ", false)", x.exchange(net, false), 0);
            due("near(" + net + ")", x.near(net, 7 - net, 0), NONE);
            due("link(" + net + ")", x.link(net, 7 - net, 0), 0);
            due("tell(" + net + ")", x.tell(net, 7 - net, 0), 0);
        }
        for (int net : new int[] {-1, 8}) {
            due("net(" + net + ", 0)", x.net(net, 0), UNKNOWN);
            due("exchange(" + net + ", false)", x.exchange(net, false), UNKNOWN);
            due("near(" + net + ", 0, 0)", x.near(net, 0, 0), UNKNOWN);
            due("near(0, " + net + ", 0)", x.near(0, net, 0), UNKNOWN);
            due("link(" + net + ", 0, 0)", x.link(net, 0, 0), UNKNOWN);
            due("link(0, " + net + ", 0)", x.link(0, net, 0), UNKNOWN);
            due("tell(" + net + ", 0, 0)", x.tell(net, 0, 0), UNKNOWN);
            due("tell(0, " + net + ", 0)", x.tell(0, net, 0), UNKNOWN);
        }
        Check.write(x, "07");
        due("way() of 07", x.way(), 0);
        for (String text : new String[] {"08", "80", "0/", "/0", "09"}) {
            Check.write(x, text);
            due("way() of " + text, x.way(), STATE);
        }
    }

    private static void wayHasTwoToSixNets() {
        Check.sentence("A WAY is a text: two to six unlike figures");
        HillWays x = new HillWays();
        String[] texts = {"", "0", "01", "012", "0123", "01234", "012345"};
        for (int length = 0; length < texts.length; length++) {
            Check.write(x, texts[length]);
            due("way() of '" + texts[length] + "'", x.way(), length < 2 ? STATE : length - 2);
        }
        for (int way = 0; way < 5; way++) {
            due("seen(" + way + ", 0)", x.seen(way, 0), way + 2);
        }
        Check.write(x, "012345");
        due("a seventh", x.letter('6'), FULL);
    }

    private static void wayHasUnlikeFigures() {
        Check.sentence("unlike figures 0 to 7");
        HillWays x = new HillWays();
        for (int first = 0; first < 6; first++) {
            for (int second = first + 1; second < 6; second++) {
                StringBuilder text = new StringBuilder("701234");
                text.setCharAt(second, text.charAt(first));
                Check.write(x, text.toString());
                due("way() of " + text, x.way(), STATE);
            }
        }
        due("count(0)", x.count(0), 0);
    }

    private static void waysAreTwelveAtMost() {
        Check.sentence("WAYS are numbered from 0, 12 at most");
        HillWays x = new HillWays();
        for (int way = 0; way < 12; way++) {
            Check.write(x, "01");
            due("way()", x.way(), way);
        }
        Check.write(x, "01");
        due("way() of a thirteenth", x.way(), FULL);
        due("seen(11, 0)", x.seen(11, 0), 2);
        due("seen(12, 0)", x.seen(12, 0), UNKNOWN);
    }

    private static void noExchangesAtFirst() {
        Check.sentence("Some NETS are EXCHANGES (none at first)");
        HillWays x = new HillWays();
        due("count(10)", x.count(10), 0);
        for (int net = 0; net < 8; net++) {
            due("net(" + net + ", 5)", x.net(net, 5), 0);
            due("exchange(" + net + ", true)", x.exchange(net, true), 0);
        }
        due("count(10)", x.count(10), 255);
    }

    private static void exchangesAreLeftOut() {
        Check.sentence("what stands beside each other in a WAY then is LINKED");
        HillWays x = Check.with("01234", "03");
        Check.exchanges(x, 1);
        due("0 and 2 are LINKED", x.link(0, 2, 3), 1);
        due("1 is LINKED with none", x.net(1, 0), 0);
        Check.exchanges(x, 2);
        due("0 and 3, over two of them, in both WAYS", x.link(0, 3, 3), 2);
        due("count(1)", x.count(1), 2);
        x.exchange(1, false);
        due("0 and 3 in one WAY", x.link(0, 3, 3), 1);
        due("1 and 3 are LINKED", x.link(1, 3, 3), 1);
        x.exchange(2, false);
        due("1 and 3 are not LINKED", x.link(1, 3, 3), 0);
        due("count(1)", x.count(1), 5);
        Check.exchanges(x, 0);
        Check.read(x, "607");
        due("a WAY that is read later", x.link(6, 7, 3), 1);
    }

    private static void exchangesAreLeftOutAtTheEnds() {
        Check.sentence("they are left out of each WAY, where they stand in it");
        HillWays x = Check.with("012345");
        Check.exchanges(x, 0, 5);
        due("seen(0, 0)", x.seen(0, 0), 4);
        due("seen(0, 10)", x.seen(0, 10), 1);
        due("seen(0, 13)", x.seen(0, 13), 4);
        due("seen(0, 14)", x.seen(0, 14), NONE);
        due("1 and 4 are not LINKED", x.link(1, 4, 3), 0);
        due("count(1)", x.count(1), 3);
        due("1 is at the end", x.net(1, 1), 0);
        due("2 is not", x.net(2, 1), 2);
    }

    private static void allAreExchanges() {
        Check.sentence("Some NETS are EXCHANGES: all of them, and none again");
        HillWays x = Check.siblings();
        String ahead = Check.all(x);
        Check.exchanges(x, 0, 1, 2, 3, 4, 5, 6, 7);
        due("count(0)", x.count(0), 2);
        due("count(1)", x.count(1), 0);
        due("rank(0)", x.rank(0), NONE);
        due("top()", x.top(), 0);
        for (int way = 0; way < 2; way++) {
            due("seen(" + way + ", 0)", x.seen(way, 0), 0);
            due("seen(" + way + ", 1)", x.seen(way, 1), NONE);
            due("seen(" + way + ", 2)", x.seen(way, 2), NONE);
            due("seen(" + way + ", 10)", x.seen(way, 10), NONE);
        }
        for (int net = 0; net < 8; net++) {
            due("net(" + net + ", 2)", x.net(net, 2), NONE);
            due("near(" + net + ", " + net + ", 0)", x.near(net, net, 0), NONE);
            x.exchange(net, false);
        }
        Check.same("none again", Check.all(x), ahead);
    }

    private static void seenWithoutLinks() {
        Check.sentence("A NET is SEEN, if it is in some WAY and no EXCHANGE");
        HillWays x = Check.with("34");
        due("in no WAY", x.net(5, 2), NONE);
        Check.exchanges(x, 4);
        due("an EXCHANGE", x.net(4, 2), NONE);
        due("one that is left alone", x.net(3, 2), 0);
        due("rank(0)", x.rank(0), 3);
        due("rank(1)", x.rank(1), NONE);
        due("it has no LINK", x.net(3, 0), 0);
        due("it is its WAY's HILL", x.seen(0, 1), 0);
        x.drop(0);
        due("in no WAY any more", x.net(3, 2), NONE);
        Check.write(x, "34");
        due("only on THE PAGE", x.net(3, 2), NONE);
    }

    // ---- degree, transit, rank, top

    private static void degrees() {
        Check.sentence("DEGREE of a NET: with how many NETS it is LINKED");
        HillWays x = Check.with("10", "10", "01");
        due("three WAYS, one NET", x.net(0, 0), 1);
        HillWays y = Check.with("102", "304", "506", "70");
        due("with all others", y.net(0, 0), 7);
        due("with one", y.net(7, 0), 1);
        due("with none", x.net(7, 0), 0);
    }

    private static void transits() {
        Check.sentence("TRANSIT: how many NETS stand beside it in WAYS");
        HillWays x = Check.with("102", "304", "506", "701");
        due("all others", x.net(0, 1), 7);
        HillWays y = Check.with("102", "201", "102");
        due("each NET once", y.net(0, 1), 2);
        HillWays z = Check.with("102", "103");
        due("one of them in two WAYS", z.net(0, 1), 3);
    }

    private static void transitOfEnds() {
        Check.sentence("WAYS in which it has one on both sides");
        HillWays x = Check.with("102", "03", "40");
        due("0 at the ends does not count", x.net(0, 1), 2);
        due("but as LINKED", x.net(0, 0), 4);
        due("at the first place", x.net(1, 1), 0);
        due("at the last place", x.net(2, 1), 0);
        due("in a WAY of two", x.net(3, 1), 0);
        Check.exchanges(x, 2);
        due("its one side is an EXCHANGE", x.net(0, 1), 0);
    }

    private static void rankByTransit() {
        Check.sentence("one with more TRANSIT comes ahead");
        // 7 has TRANSIT 3 and DEGREE 3; 0 has TRANSIT 2 and DEGREE 5
        HillWays x = Check.with("172", "173", "405", "01", "02", "06");
        due("TRANSIT of 7", x.net(7, 1), 3);
        due("TRANSIT of 0", x.net(0, 1), 2);
        due("DEGREE of 0", x.net(0, 0), 5);
        due("rank(0)", x.rank(0), 7);
        due("rank(1)", x.rank(1), 0);
    }

    private static void rankByDegree() {
        Check.sentence("of like ones with more DEGREE");
        // both have TRANSIT 2; 7 has DEGREE 3 and 0 has 2
        HillWays x = Check.with("172", "405", "76");
        due("TRANSIT of 7", x.net(7, 1), 2);
        due("TRANSIT of 0", x.net(0, 1), 2);
        due("rank(0)", x.rank(0), 7);
        due("rank(1)", x.rank(1), 0);
    }

    private static void rankByNumber() {
        Check.sentence("of like ones the lesser");
        HillWays x = Check.with("76", "54", "32", "10");
        for (int place = 0; place < 8; place++) {
            due("rank(" + place + ")", x.rank(place), place);
            due("net(" + place + ", 2)", x.net(place, 2), place);
        }
    }

    private static void topHasTheFirst() {
        Check.sentence("all sets of SEEN NETS that have the first one by RANK");
        // 3, 4, 5 are all LINKED, but 0 comes first and is in no set of three
        HillWays x = Check.with("102", "34", "45", "53");
        due("rank(0)", x.rank(0), 0);
        due("top()", x.top(), 3);
    }

    private static void topOfMostNets() {
        Check.sentence("that of most NETS");
        // 0 and 3 have the greatest sum of two, 0, 1, 2 are three
        HillWays x = Check.with("102", "12", "304", "35", "36", "37");
        due("rank(0)", x.rank(0), 0);
        due("top()", x.top(), 7);
        due("all eight", Check.allLinked().top(), 255);
    }

    private static void topOfGreatestSum() {
        Check.sentence("of like ones that with the greatest sum of DEGREES");
        HillWays x = Check.with("157", "76");
        due("DEGREE of 7", x.net(7, 0), 2);
        due("DEGREE of 1", x.net(1, 0), 1);
        due("5 and 7", x.top(), 160);
        due("5 and 0: the DEGREE of 0 counts, too", Check.with("057", "06").top(), 33);
    }

    private static void topOfLeastBits() {
        Check.sentence("then the least (bits, as a number)");
        due("5 and 1, 5 and 7 are alike", Check.with("157").top(), 34);
        due("0 and 3, 0 and 5 are alike", Check.siblings().top(), 9);
    }

    private static void topIsEmpty() {
        Check.sentence("empty, if no NET is SEEN");
        HillWays x = new HillWays();
        due("no WAYS", x.top(), 0);
        Check.read(x, "67");
        due("both", x.top(), 192);
        Check.exchanges(x, 7);
        due("one alone", x.top(), 64);
        due("net(6, 3)", x.net(6, 3), 1);
        Check.exchanges(x, 6);
        due("EXCHANGES alone", x.top(), 0);
        due("net(6, 3)", x.net(6, 3), 0);
    }

    // ---- hill, votes, names

    private static void hillAtTheEnds() {
        Check.sentence("HILL of a WAY (EXCHANGES left out): its NET that is first by RANK");
        HillWays x = Check.with("10547", "01632", "45", "54", "2361");
        due("in the middle", x.seen(0, 1), 1);
        due("at the first place", x.seen(1, 1), 0);
        due("4 is ahead of 5", x.seen(2, 1), 0);
        due("at the last place", x.seen(3, 1), 1);
        due("at the last place of four", x.seen(4, 1), 3);
        Check.exchanges(x, 1);
        due("4 of 0547: 0 is at no place but ends now", x.seen(0, 1), 2);
        due("3 of 236", x.seen(4, 1), 1);
    }

    private static void votesUpToTheHill() {
        Check.sentence("ahead of its HILL (the HILL as the second one, too)");
        // 0 comes first, TOP is 0 and 1; the HILL of 43 is 3
        HillWays x = Check.with("102", "43");
        due("top()", x.top(), 3);
        due("4 PAYS 3", x.link(4, 3, 1), 1);
        due("3 PAYS 4", x.link(4, 3, 2), 0);
        HillWays y = Check.ring();
        due("4 PAYS the HILL 2", y.link(4, 2, 1), 1);
        due("0 PAYS 4", y.link(0, 4, 1), 1);
        due("not the other way round", y.link(0, 4, 2), 0);
    }

    private static void votesBehindTheHill() {
        Check.sentence("of two behind it (the HILL as the first one, too)");
        HillWays x = Check.with("102", "34");
        due("4 PAYS 3", x.link(3, 4, 2), 1);
        due("3 PAYS 4", x.link(3, 4, 1), 0);
        HillWays y = Check.ring();
        due("3 PAYS the HILL 2, in both WAYS", y.link(2, 3, 2), 2);
        due("1 PAYS 3", y.link(3, 1, 2), 1);
        due("5 PAYS 1, the last two", y.link(1, 5, 2), 1);
        due("not the other way round", y.link(1, 5, 1), 0);
    }

    private static void votesNotInTop() {
        Check.sentence("not, where both are in TOP");
        HillWays x = Check.voted(12, 0);
        due("6 and 0 in WAYS", x.link(6, 0, 3), 12);
        due("6 PAYS 0", x.link(6, 0, 1), 0);
        due("0 PAYS 6", x.link(6, 0, 2), 0);
        due("2 PAYS 6: one is not in TOP", x.link(2, 6, 1), 12);
        HillWays y = Check.allLinked();
        for (int pair = 0; pair < 64; pair++) {
            if (pair / 8 != pair % 8) {
                due("VOTES of " + pair / 8 + pair % 8, y.link(pair / 8, pair % 8, 1), 0);
            }
        }
    }

    private static void namesByVotes() {
        Check.sentence("1 (a PAYS b), if more VOTES are for that than for the other way round; 2 (b PAYS a), if less");
        int[][] votes = {{1, 0}, {12, 0}, {2, 1}, {7, 5}, {11, 1}};
        for (int[] both : votes) {
            HillWays more = Check.voted(both[0], both[1]);
            due(both[0] + " to " + both[1], more.link(1, 2, 0), 1);
            due("from 2", more.link(2, 1, 0), 2);
            due("link(1, 2, 1)", more.link(1, 2, 1), both[0]);
            due("link(1, 2, 2)", more.link(1, 2, 2), both[1]);
            HillWays less = Check.voted(both[1], both[0]);
            due(both[1] + " to " + both[0], less.link(1, 2, 0), 2);
            due("from 2", less.link(2, 1, 0), 1);
        }
    }

    private static void namesAsMany() {
        Check.sentence("4 SIBLINGS, if as many");
        for (int each : new int[] {1, 2, 6}) {
            HillWays x = Check.voted(each, each);
            due("link(1, 2, 0)", x.link(1, 2, 0), 4);
            due("link(2, 1, 0)", x.link(2, 1, 0), 4);
            due("link(1, 2, 1)", x.link(1, 2, 1), each);
        }
    }

    private static void namesOfPeers() {
        Check.sentence("3 PEERS, if both are in TOP");
        HillWays x = Check.payingTop();
        due("both", x.link(5, 1, 0), 3);
        due("from the other end", x.link(1, 5, 0), 3);
        due("one of them", x.link(5, 2, 0), 1);
        due("one of them", x.link(3, 1, 0), 1);
        due("none of them", x.link(4, 2, 0), 1);
    }

    private static void contradictedByOneVote() {
        Check.sentence("It is CONTRADICTED, if there are VOTES for both");
        due("one each", Check.voted(1, 1).count(5), 1);
        due("one against eleven", Check.voted(11, 1).count(5), 1);
        due("eleven against one", Check.voted(1, 11).contradicted(0), 10);
        due("none against twelve", Check.voted(12, 0).count(5), 0);
        due("none against twelve", Check.voted(0, 12).contradicted(0), NONE);
        due("no VOTES at all", Check.allLinked().count(5), 0);
    }

    // ---- valleys

    private static void valleyBehindDown() {
        Check.sentence("NAME 1 or 3 that stands somewhere behind a LINK of NAME 2");
        HillWays x = Check.ring();
        due("NAMES 2, 1", Check.valley(x, "013"), 1);
        due("NAMES 2, 2", Check.valley(x, "401"), NONE);
        due("NAMES 1, 1", Check.valley(x, "104"), NONE);
        due("NAMES 1, 2", Check.valley(x, "423"), NONE);
        HillWays y = Check.payingTop();
        due("NAMES 2, 3", Check.valley(y, "251"), 1);
        due("NAMES 1, 2, 3", Check.valley(y, "4251"), 2);
    }

    private static void valleyBehindPeers() {
        Check.sentence("NAME 1 or 3 that stands somewhere behind a LINK of NAME 3");
        HillWays x = Check.payingTop();
        due("NAMES 3, 1", Check.valley(x, "152"), 1);
        due("NAMES 1, 3, 1", Check.valley(x, "3152"), 2);
        due("NAMES 3, 2", Check.valley(x, "513"), NONE);
        due("NAMES 1, 3", Check.valley(x, "315"), NONE);
        due("NAME 3 alone", Check.valley(x, "15"), NONE);
        HillWays y = Check.allLinked();
        due("NAMES 3, 3", Check.valley(y, "012"), 1);
    }

    private static void valleyFarBehind() {
        Check.sentence("somewhere behind: the last LINK of six NETS");
        HillWays x = Check.siblings();
        due("NAMES 1, 2, 2, 4, 1", Check.valley(x, "405123"), 4);
        HillWays y = Check.chain();
        due("NAMES 1, 1, 1, 3, 2", Check.valley(y, "745016"), NONE);
        due("NAMES 3, 2, 2, 2", Check.valley(y, "01632"), NONE);
    }

    private static void valleyIsTheFirst() {
        Check.sentence("has a VALLEY at its first LINK (numbered from 0)");
        due("NAMES 3, 3, 3, 3, 3", Check.valley(Check.allLinked(), "012345"), 1);
        due("NAMES 2, 1, 1", Check.valley(Check.ring(), "0132"), 1);
        HillWays x = Check.with("012", "120", "201");
        for (int way = 0; way < 3; way++) {
            due("seen(" + way + ", 2)", x.seen(way, 2), 1);
        }
        HillWays y = Check.allLinked();
        for (int way = 0; way < 8; way++) {
            due("seen(" + way + ", 2)", y.seen(way, 2), 1);
        }
    }

    private static void siblingsDoNotMatter() {
        Check.sentence("SIBLINGS do not matter");
        HillWays x = Check.siblings();
        due("NAME 4", Check.valley(x, "12"), NONE);
        due("NAMES 4, 1", Check.valley(x, "123"), NONE);
        due("NAMES 2, 4", Check.valley(x, "512"), NONE);
        due("NAMES 2, 4, 1", Check.valley(x, "5123"), 2);
        due("NAMES 3, 2, 4", Check.valley(x, "0321"), NONE);
        due("NAMES 4, 1, 3, 2", Check.valley(x, "12304"), NONE);
    }

    // ---- cone, near, next

    private static void coneOfItselfAlone() {
        Check.sentence("CONE of a NET: itself");
        HillWays x = Check.siblings();
        due("SIBLINGS do not PAY", x.net(1, 4), 2);
        due("SIBLINGS do not PAY", x.net(2, 4), 4);
        due("none PAYS 4", x.net(4, 4), 16);
        due("not SEEN", x.net(7, 4), 128);
        Check.exchanges(x, 0);
        due("an EXCHANGE", x.net(0, 4), 1);
        HillWays y = Check.allLinked();
        for (int net = 0; net < 8; net++) {
            due("PEERS do not PAY", y.net(net, 4), 1 << net);
        }
    }

    private static void coneOfAll() {
        Check.sentence("and all NETS that PAY one in the CONE");
        HillWays x = Check.chain();
        int[] cones = {1 | 1 << 5 | 1 << 4 | 1 << 7, 2 | 1 << 6 | 1 << 3 | 1 << 2, 4, 12, 144, 176, 76, 128};
        for (int net = 0; net < 8; net++) {
            due("net(" + net + ", 4)", x.net(net, 4), cones[net]);
        }
        // 7 comes first, TOP is 0, 2 and 7; 0 PAYS 1, and so on up to 7: the longest line of those who PAY
        HillWays line = Check.with("765432", "720", "670", "672", "012");
        due("top()", line.top(), 133);
        for (int net = 0; net < 8; net++) {
            due("all up to " + net, line.net(net, 4), (2 << net) - 1);
        }
        HillWays y = Check.voted(1, 0);
        due("6 of 2 of 1, not 0", y.net(6, 4), 1 << 6 | 1 << 2 | 1 << 1);
    }

    private static void coneOfARing() {
        Check.sentence("CONE of NETS that PAY each other in a ring");
        HillWays x = Check.ring();
        int[] cones = {35, 35, 63, 43, 51, 35, 64, 128};
        for (int net = 0; net < 8; net++) {
            due("net(" + net + ", 4)", x.net(net, 4), cones[net]);
        }
    }

    private static void nearIsFewest() {
        Check.sentence("the fewest LINKS of a row of NETS from a to b, each LINKED with the next one, without a VALLEY");
        HillWays x = Check.ring();
        due("0 1 3 has a VALLEY, 0 4 2 3 has none", x.near(0, 3, 0), 3);
        due("and back", x.near(3, 0, 0), 3);
        due("NAMES 2, 2", x.near(4, 1, 0), 2);
        due("NAMES 1, 1", x.near(1, 4, 0), 2);
        due("one LINK", x.near(0, 1, 0), 1);
        HillWays y = Check.siblings();
        due("NAMES 4, 1", y.near(1, 3, 0), 2);
        HillWays z = Check.allLinked();
        for (int pair = 0; pair < 64; pair++) {
            due("near of " + pair, z.near(pair / 8, pair % 8, 0), pair / 8 == pair % 8 ? 0 : 1);
        }
    }

    private static void nearIsLongest() {
        Check.sentence("the fewest LINKS: a row of all eight NETS");
        HillWays x = Check.chain();
        int[] row = {7, 4, 5, 0, 1, 6, 3, 2};
        for (int from = 0; from < 8; from++) {
            for (int to = 0; to < 8; to++) {
                String call = "near(" + row[from] + ", " + row[to] + ", ";
                int next = from == to ? NONE : row[from < to ? from + 1 : from - 1];
                due(call + "0)", x.near(row[from], row[to], 0), Math.abs(from - to));
                due(call + "1)", x.near(row[from], row[to], 1), next);
            }
        }
    }

    private static void nearIsNone() {
        Check.sentence("none, if there is none");
        HillWays x = Check.payingTop();
        due("each row has a VALLEY", x.near(3, 4, 0), NONE);
        due("each row has a VALLEY", x.near(4, 3, 0), NONE);
        due("each row has a VALLEY", x.near(1, 2, 0), NONE);
        due("not SEEN", x.near(1, 7, 0), NONE);
        due("not SEEN", x.near(7, 1, 0), NONE);
        due("both not SEEN", x.near(6, 7, 0), NONE);
        HillWays y = Check.with("01", "67");
        due("no row", y.near(0, 7, 0), NONE);
    }

    private static void nearOfItself() {
        Check.sentence("0, if a is b and is SEEN");
        HillWays x = Check.with("01", "23");
        due("SEEN", x.near(0, 0, 0), 0);
        due("not SEEN", x.near(7, 7, 0), NONE);
        Check.exchanges(x, 2);
        due("an EXCHANGE", x.near(2, 2, 0), NONE);
        due("SEEN without a LINK", x.near(3, 3, 0), 0);
    }

    private static void nextIsTheLeast() {
        Check.sentence("NEXT: of such rows of fewest LINKS the least second NET");
        HillWays x = Check.ring();
        due("0 4 2 and 0 5 2", x.near(0, 2, 1), 4);
        due("0 1 3 has a VALLEY", x.near(0, 3, 1), 4);
        due("2 4 0 and 2 5 0", x.near(2, 0, 1), 4);
        due("5 1 3 and 5 2 3", x.near(5, 3, 1), 1);
        due("one LINK, although 0 is less", x.near(1, 3, 1), 3);
        HillWays y = Check.with("6203", "6103");
        due("6 1 0 and 6 2 0", y.near(6, 0, 1), 1);
    }

    // ---- calls

    private static void lastOfTheCalls() {
        Check.sentence("An object is used for at most 512 calls after it has been made");
        HillWays x = new HillWays();
        int calls = 0;
        for (int round = 0; calls + 4 < 512; round++) {
            due("letter('0')", x.letter('0'), 1);
            due("letter('1')", x.letter('1'), 2);
            due("way()", x.way(), 0);
            due("drop(0)", x.drop(0), 0);
            calls += 4;
            due("rounds", round + 1, calls / 4);
        }
        due("the 509th call", x.letter('0'), 1);
        due("the 510th call", x.letter('1'), 2);
        due("the 511th call", x.way(), 0);
        due("the 512th call", x.count(11), 128);
    }
}
