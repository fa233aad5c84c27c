import java.util.ArrayDeque;
import java.util.ArrayList;
import java.util.Comparator;
import java.util.List;
import java.util.Random;
import java.util.Set;
import java.util.TreeSet;

/** Runs of calls beside a second telling of the document, written for plainness and not for speed. */
public final class ModelTest {
    private static final int RUNS = 1000, MOST_CALLS = 512;
    // All questions at once would be more than 512 calls: each run is made so many times, and asked a part each time.
    private static final int PARTS = 8;
    private static final int[] EDGE_CODES = {31, 32, 126, 127};

    private static int wrong = 0;
    private static int calls = 0;
    private static int questions = 0;
    private static int part = 0;

    private static void due(String call, long got, long want) {
        calls++;
        if (got != want) {
            wrong++;
            if (wrong <= 20) {
                System.out.println(call + " answered " + got + ", due is " + want);
            }
        }
    }

    private static boolean isAsked() {
        return questions++ % PARTS == part;
    }

    public static void main(String[] args) {
        for (int run = 0; run < RUNS; run++) {
            for (part = 0; part < PARTS; part++) {
                oneRun(run);
            }
        }
        System.out.println(wrong == 0 ? "the class and the model agree" : wrong + " answers are not as due");
        if (wrong != 0) {
            System.exit(1);
        }
    }

    private static void oneRun(int run) {
        Random random = new Random(run);
        HillWays x = new HillWays();
        Model model = new Model();
        calls = 0;
        questions = 0;
        int nets = 4 + random.nextInt(5);
        int steps = 1 + random.nextInt(30);
        for (int step = 0; step < steps; step++) {
            String at = "run " + run + ", step " + step + ": ";
            change(at, x, model, random, nets);
            if (step % PARTS == part) {
                due(at + "digest()", x.digest(), model.digest());
            }
        }
        compare("run " + run + ", its end: ", x, model);
        if (calls > MOST_CALLS) {
            wrong++;
            System.out.println("run " + run + " has " + calls + " calls: the test asks for more than is promised");
        }
    }

    private static void change(String at, HillWays x, Model model, Random random, int nets) {
        int kind = random.nextInt(20);
        if (kind < 12) {
            int letters = random.nextInt(7);
            boolean clean = random.nextInt(8) != 0;
            for (int i = 0; i < letters; i++) {
                boolean atEdge = !clean && random.nextInt(6) == 0;
                int code = atEdge ? EDGE_CODES[random.nextInt(4)] : '0' + random.nextInt(clean ? nets : nets + 3);
                if (clean && model.page.indexOf("" + (char) code) >= 0) {
                    continue;
                }
                due(at + "letter(" + code + ")", x.letter(code), model.letter(code));
            }
            due(at + "fault()", x.fault(), model.fault());
            due(at + "valley()", x.valley(), model.valley());
            due(at + "way()", x.way(), model.way());
        } else if (kind < 14) {
            due(at + "blank()", x.blank(), model.page.length());
            model.page = "";
        } else if (kind < 15) {
            int way = random.nextInt(14) - 1;
            due(at + "drop(" + way + ")", x.drop(way), model.drop(way));
        } else if (kind < 17) {
            int net = random.nextInt(10) - 1;
            boolean is = random.nextInt(3) == 0;
            due(at + "exchange(" + net + ", " + is + ")", x.exchange(net, is), model.exchange(net, is));
        } else {
            int a = random.nextInt(10) - 1;
            int b = random.nextInt(10) - 1;
            int name = random.nextInt(7) - 1;
            due(at + "tell(" + a + ", " + b + ", " + name + ")", x.tell(a, b, name), model.tell(a, b, name));
        }
    }

    private static void compare(String at, HillWays x, Model model) {
        for (int a = -1; a <= 8; a++) {
            if (isAsked()) {
                due(at + "rank(" + a + ")", x.rank(a), model.rank(a));
            }
            for (int what = -1; what <= 6; what++) {
                if (isAsked()) {
                    due(at + "net(" + a + ", " + what + ")", x.net(a, what), model.net(a, what));
                }
            }
            for (int b = -1; b <= 8; b++) {
                comparePair(at, x, model, a, b);
            }
        }
        for (int place = -1; place <= 28; place++) {
            if (isAsked()) {
                due(at + "contradicted(" + place + ")", x.contradicted(place), model.contradicted(place));
            }
        }
        for (int way = -1; way <= 12; way++) {
            for (int what = -1; what <= 16; what++) {
                if (isAsked()) {
                    due(at + "seen(" + way + ", " + what + ")", x.seen(way, what), model.seen(way, what));
                }
            }
        }
        for (int what = -1; what <= 12; what++) {
            if (isAsked()) {
                due(at + "count(" + what + ")", x.count(what), model.count(what));
            }
        }
        due(at + "top()", x.top(), model.top());
        due(at + "valley()", x.valley(), model.valley());
        due(at + "digest()", x.digest(), model.digest());
    }

    private static void comparePair(String at, HillWays x, Model model, int a, int b) {
        String pair = "(" + a + ", " + b + ", ";
        for (int what = -1; what <= 5; what++) {
            if (isAsked()) {
                due(at + "link" + pair + what + ")", x.link(a, b, what), model.link(a, b, what));
            }
        }
        for (int what = -1; what <= 2; what++) {
            if (isAsked()) {
                due(at + "near" + pair + what + ")", x.near(a, b, what), model.near(a, b, what));
            }
        }
    }

    private static final class Model {
        final List<String> ways = new ArrayList<>();
        final Set<Integer> exchanges = new TreeSet<>();
        final int[][] told = new int[8][8];
        String page = "";
        int readings = 0;
        // all that follows is forgotten with each change
        List<List<Integer>> rows;
        List<Integer> ranked;
        Set<Integer> top;
        int[][] votes;

        // ---- changes

        int letter(int code) {
            if (code < 32 || code > 126) {
                return -1002;
            }
            if (page.length() == 6) {
                return -1004;
            }
            page += (char) code;
            return page.length();
        }

        int way() {
            if (!page.matches("[0-7]{2,6}") || fault() < page.length()) {
                return -1003;
            }
            if (ways.size() == 12) {
                return -1004;
            }
            ways.add(page);
            page = "";
            readings++;
            rows = null;
            return ways.size() - 1;
        }

        int drop(int way) {
            if (way < 0 || way >= ways.size()) {
                return -1001;
            }
            ways.remove(way);
            rows = null;
            return ways.size();
        }

        int exchange(int net, boolean is) {
            if (net < 0 || net > 7) {
                return -1001;
            }
            rows = null;
            int was = exchanges.contains(net) ? 1 : 0;
            if (is) {
                exchanges.add(net);
            } else {
                exchanges.remove(net);
            }
            return was;
        }

        int tell(int a, int b, int name) {
            if (noPair(a, b)) {
                return -1001;
            }
            if (name < 0 || name > 4) {
                return -1002;
            }
            int was = told[a][b];
            told[a][b] = name;
            told[b][a] = name == 1 ? 2 : name == 2 ? 1 : name;
            return was;
        }

        // ---- what is derived

        void derive() {
            if (rows != null) {
                return;
            }
            rows = new ArrayList<>();
            for (String way : ways) {
                List<Integer> row = netsOf(way);
                row.removeIf(exchanges::contains);
                rows.add(row);
            }
            Set<Integer> seen = new TreeSet<>();
            rows.forEach(seen::addAll);
            ranked = new ArrayList<>(seen);
            ranked.sort(Comparator.<Integer>comparingInt(n -> -transit(n))
                .thenComparingInt(n -> -linkedWith(n).size())
                .thenComparingInt(n -> n));
            top = findTop();
            votes = new int[8][8];
            for (List<Integer> row : rows) {
                for (int i = 0; i + 1 < row.size(); i++) {
                    int first = row.get(i);
                    int second = row.get(i + 1);
                    if (top.contains(first) && top.contains(second)) {
                        continue;
                    }
                    if (i + 1 <= hill(row)) {
                        votes[first][second]++;
                    } else {
                        votes[second][first]++;
                    }
                }
            }
        }

        static List<Integer> netsOf(String way) {
            List<Integer> nets = new ArrayList<>();
            for (char figure : way.toCharArray()) {
                nets.add(figure - '0');
            }
            return nets;
        }

        static boolean noPair(int a, int b) {
            return a < 0 || a > 7 || b < 0 || b > 7 || a == b;
        }

        int inWays(int a, int b) {
            int found = 0;
            for (List<Integer> row : rows) {
                int i = row.indexOf(a);
                int j = row.indexOf(b);
                if (i >= 0 && j >= 0 && Math.abs(i - j) == 1) {
                    found++;
                }
            }
            return found;
        }

        Set<Integer> linkedWith(int net) {
            Set<Integer> others = new TreeSet<>();
            for (int other = 0; other < 8; other++) {
                if (other != net && inWays(net, other) > 0) {
                    others.add(other);
                }
            }
            return others;
        }

        int transit(int net) {
            Set<Integer> beside = new TreeSet<>();
            for (List<Integer> row : rows) {
                int at = row.indexOf(net);
                if (at > 0 && at < row.size() - 1) {
                    beside.add(row.get(at - 1));
                    beside.add(row.get(at + 1));
                }
            }
            return beside.size();
        }

        Set<Integer> findTop() {
            if (ranked.isEmpty()) {
                return new TreeSet<>();
            }
            List<Set<Integer>> sets = new ArrayList<>();
            Set<Integer> first = new TreeSet<>();
            first.add(ranked.get(0));
            grow(first, sets);
            sets.sort(Comparator.<Set<Integer>>comparingInt(s -> -s.size())
                .thenComparingInt(s -> -s.stream().mapToInt(n -> linkedWith(n).size()).sum())
                .thenComparingInt(Model::bits));
            return sets.get(0);
        }

        void grow(Set<Integer> set, List<Set<Integer>> found) {
            if (found.contains(set)) {
                return;
            }
            found.add(set);
            for (int net : ranked) {
                if (!set.contains(net) && linkedWith(net).containsAll(set)) {
                    Set<Integer> larger = new TreeSet<>(set);
                    larger.add(net);
                    grow(larger, found);
                }
            }
        }

        static int bits(Set<Integer> set) {
            return set.stream().mapToInt(n -> 1 << n).sum();
        }

        int hill(List<Integer> row) {
            for (int net : ranked) {
                if (row.contains(net)) {
                    return row.indexOf(net);
                }
            }
            return -1;
        }

        int name(int a, int b) {
            if (inWays(a, b) == 0) {
                return 0;
            }
            if (top.contains(a) && top.contains(b)) {
                return 3;
            }
            return votes[a][b] > votes[b][a] ? 1 : votes[a][b] < votes[b][a] ? 2 : 4;
        }

        int valleyOf(List<Integer> row) {
            List<Integer> names = new ArrayList<>();
            for (int i = 0; i + 1 < row.size(); i++) {
                int name = name(row.get(i), row.get(i + 1));
                if ((name == 1 || name == 3) && (names.contains(2) || names.contains(3))) {
                    return i;
                }
                if (name == 0) {
                    return i;
                }
                names.add(name);
            }
            return -1;
        }

        /** All rows of fewest links, but of those alike in what may follow only that with the least second net. */
        List<Integer> shortest(int a, int b) {
            if (!ranked.contains(a) || !ranked.contains(b)) {
                return null;
            }
            ArrayDeque<List<Integer>> waiting = new ArrayDeque<>();
            Set<Integer> met = new TreeSet<>();
            List<Integer> best = null;
            waiting.add(List.of(a));
            while (!waiting.isEmpty()) {
                List<Integer> row = waiting.poll();
                int last = row.get(row.size() - 1);
                if (best != null && row.size() > best.size()) {
                    break;
                }
                if (last == b && (best == null || row.size() > 1 && row.get(1) < best.get(1))) {
                    best = row;
                }
                for (int net : linkedWith(last)) {
                    List<Integer> longer = new ArrayList<>(row);
                    longer.add(net);
                    int key = (net * 2 + (fell(longer) ? 1 : 0)) * 8 + longer.get(1);
                    if (valleyOf(longer) == -1 && met.add(key)) {
                        waiting.add(longer);
                    }
                }
            }
            return best;
        }

        boolean fell(List<Integer> row) {
            for (int i = 0; i + 1 < row.size(); i++) {
                int name = name(row.get(i), row.get(i + 1));
                if (name == 2 || name == 3) {
                    return true;
                }
            }
            return false;
        }

        // ---- answers

        int fault() {
            for (int i = 0; i < page.length(); i++) {
                char letter = page.charAt(i);
                if (letter < '0' || letter > '7' || page.indexOf(letter) < i) {
                    return i;
                }
            }
            return page.length();
        }

        int valley() {
            derive();
            return page.length() < 2 || fault() < page.length() ? -1003 : valleyOf(netsOf(page));
        }

        int net(int net, int what) {
            derive();
            if (net < 0 || net > 7) {
                return -1001;
            }
            switch (what) {
                case 0: return linkedWith(net).size();
                case 1: return transit(net);
                case 2: return ranked.indexOf(net);
                case 3: return top.contains(net) ? 1 : 0;
                case 4: return bits(cone(net));
                case 5: return exchanges.contains(net) ? 1 : 0;
                default: return -1002;
            }
        }

        Set<Integer> cone(int net) {
            Set<Integer> cone = new TreeSet<>();
            ArrayDeque<Integer> waiting = new ArrayDeque<>();
            waiting.add(net);
            while (!waiting.isEmpty()) {
                int next = waiting.poll();
                if (cone.add(next)) {
                    linkedWith(next).stream().filter(n -> name(n, next) == 1).forEach(waiting::add);
                }
            }
            return cone;
        }

        int rank(int place) {
            derive();
            return place < 0 || place >= ranked.size() ? -1 : ranked.get(place);
        }

        int top() {
            derive();
            return bits(top);
        }

        int link(int a, int b, int what) {
            derive();
            if (noPair(a, b)) {
                return -1001;
            }
            switch (what) {
                case 0: return name(a, b);
                case 1: return votes[a][b];
                case 2: return votes[b][a];
                case 3: return inWays(a, b);
                case 4: return told[a][b];
                default: return -1002;
            }
        }

        int contradicted(int place) {
            derive();
            List<Integer> found = new ArrayList<>();
            for (int a = 0; a < 8; a++) {
                for (int b = a + 1; b < 8; b++) {
                    if (votes[a][b] > 0 && votes[b][a] > 0) {
                        found.add(8 * a + b);
                    }
                }
            }
            found.sort(Comparator.<Integer>comparingInt(n -> -Math.min(votes[n / 8][n % 8], votes[n % 8][n / 8]))
                .thenComparingInt(n -> n));
            return place < 0 || place >= found.size() ? -1 : found.get(place);
        }

        int seen(int way, int what) {
            derive();
            if (way < 0 || way >= rows.size()) {
                return -1001;
            }
            List<Integer> row = rows.get(way);
            if (what >= 10 && what <= 15) {
                return what - 10 < row.size() ? row.get(what - 10) : -1;
            }
            return what == 0 ? row.size() : what == 1 ? hill(row) : what == 2 ? valleyOf(row) : -1002;
        }

        int near(int a, int b, int what) {
            derive();
            if (a < 0 || a > 7 || b < 0 || b > 7) {
                return -1001;
            }
            if (what != 0 && what != 1) {
                return -1002;
            }
            List<Integer> row = shortest(a, b);
            if (row == null) {
                return -1;
            }
            return what == 0 ? row.size() - 1 : row.size() > 1 ? row.get(1) : -1;
        }

        int count(int what) {
            derive();
            int[] all = new int[12];
            all[0] = ways.size();
            for (int a = 0; a < 8; a++) {
                for (int b = a + 1; b < 8; b++) {
                    int name = name(a, b);
                    if (name == 0) {
                        continue;
                    }
                    all[1]++;
                    all[name == 3 ? 3 : name == 4 ? 4 : 2]++;
                    all[5] += votes[a][b] > 0 && votes[b][a] > 0 ? 1 : 0;
                    all[7] += told[a][b] == name ? 1 : 0;
                    all[8] += told[a][b] != 0 && told[a][b] != name ? 1 : 0;
                }
            }
            all[6] = (int) rows.stream().filter(row -> valleyOf(row) != -1).count();
            all[9] = page.length();
            all[10] = bits(exchanges);
            all[11] = readings;
            return what < 0 || what > 11 ? -1002 : all[what];
        }

        long digest() {
            List<Integer> all = new ArrayList<>();
            for (int i = 0; i < 48; i++) {
                all.add(net(i / 6, i % 6));
            }
            for (int place = 0; place < 8; place++) {
                all.add(rank(place));
            }
            all.add(top());
            for (int a = 0; a < 8; a++) {
                for (int b = a + 1; b < 8; b++) {
                    for (int what = 0; what < 5; what++) {
                        all.add(link(a, b, what));
                    }
                }
            }
            for (int i = 0; i < 64; i++) {
                all.add(near(i / 8, i % 8, 0));
            }
            for (int place = 0; place < 4; place++) {
                all.add(contradicted(place));
            }
            for (int i = 0; i < 3 * ways.size(); i++) {
                all.add(seen(i / 3, i % 3));
            }
            page.chars().forEach(all::add);
            for (int what = 0; what < 12; what++) {
                all.add(count(what));
            }
            long h = 1747;
            for (int number : all) {
                h = 31 * h + number;
            }
            return h;
        }
    }
}
