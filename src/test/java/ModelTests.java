import java.util.ArrayList;
import java.util.LinkedList;
import java.util.List;
import java.util.Map;
import java.util.Random;
import java.util.TreeMap;
import java.util.regex.Matcher;
import java.util.regex.Pattern;

/**
 * Long runs of calls against a model that is written from the document's words in another way:
 * sheaves that are linked, faults of texts by a pattern, undo by copies. All numbers that a caller
 * can ask for are compared again and again.
 */
public final class ModelTests {
    private static final int NONE = -11;
    private static final int BAD = -12;
    private static final int FULL = -13;
    private static final int REFUSED = -14;
    private static final int NOTHING = -15;
    private static final Due due = new Due("ModelTests");

    public static void main(String[] args) {
        for (int seed = 0; seed < 400 && due.wrong() < 10; seed++) {
            due.part("seed " + seed);
            runOne(new Random(seed));
        }
        due.end();
    }

    private static void runOne(Random random) {
        LeaningRicks x = new LeaningRicks();
        Model model = new Model();
        int range = new int[] {12, 40, 200, 1000}[random.nextInt(4)];
        int way = random.nextInt(3);
        int step = 0;
        for (int i = 0; i < 250 && due.wrong() < 10; i++) {
            step = way == 0 ? random.nextInt(range) : (step + (way == 1 ? 1 : range - 1)) % range;
            change(x, model, random, step, range);
            if (random.nextInt(6) == 0) {
                compare(x, model, random);
            }
        }
        compare(x, model, random);
    }

    private static void change(LeaningRicks x, Model m, Random random, int weight, int range) {
        int rick = random.nextInt(20) == 0 ? random.nextInt(5) - 1 : random.nextInt(3);
        switch (random.nextInt(24)) {
            case 0: case 1: case 2: case 3: case 4: case 5: case 6: case 7: case 8: case 9: {
                int load = random.nextInt(40) == 0 ? random.nextInt(3) * 100 : 1 + random.nextInt(99);
                int w = random.nextInt(60) == 0 ? random.nextInt(3000) - 1000 : weight;
                due.is("put(" + rick + ", " + w + ", " + load + ")", x.put(rick, w, load),
                        m.change(() -> m.put(rick, w, load)));
                break;
            }
            case 10: case 11: case 12: case 13: case 14: {
                int w = m.anyWeight(random, rick, range);
                due.is("take(" + rick + ", " + w + ")", x.take(rick, w),
                        m.change(() -> m.take(rick, w)));
                break;
            }
            case 15:
                due.is("build(" + rick + ")", x.build(rick), m.change(() -> m.build(rick)));
                break;
            case 16: {
                int into = random.nextInt(4);
                due.is("pour(" + rick + ", " + into + ")", x.pour(rick, into),
                        m.change(() -> m.pour(rick, into)));
                break;
            }
            case 17: {
                int limit = 53 + random.nextInt(40);
                due.is("limit(" + limit + ")", x.limit(limit), m.change(() -> m.limit(limit)));
                break;
            }
            case 18: case 19: case 20:
                runText(x, m, random, range);
                break;
            case 21: case 22:
                due.is("undo()", x.undo(), m.undo());
                break;
            default:
                if (random.nextInt(3) == 0) {
                    due.is("save()", x.save(), m.save());
                } else if (random.nextInt(3) == 0) {
                    due.is("restore()", x.restore(), m.restore());
                }
        }
    }

    private static void runText(LeaningRicks x, Model m, Random random, int range) {
        StringBuilder text = new StringBuilder();
        int orders = 1 + random.nextInt(6);
        for (int i = 0; i < orders; i++) {
            if (i > 0) {
                text.append(';');
            }
            text.append(order(m, random, range));
        }
        if (random.nextInt(3) == 0) {
            int place = random.nextInt(text.length());
            String signs = "+-=>%:*;0123456789 x";
            char sign = signs.charAt(random.nextInt(signs.length()));
            switch (random.nextInt(3)) {
                case 0: text.setCharAt(place, sign); break;
                case 1: text.deleteCharAt(place); break;
                default: text.insert(place, sign);
            }
        }
        for (int i = 0; i < text.length(); i++) {
            due.is("append", x.append(text.charAt(i)), m.append(text.charAt(i)));
        }
        due.is("account(9)", x.account(9), m.text.length());
        String all = m.text.toString();
        due.is("run() of " + all, x.run(), m.run());
    }

    private static String order(Model m, Random random, int range) {
        int rick = random.nextInt(30) == 0 ? random.nextInt(10) : random.nextInt(3);
        String format = random.nextInt(4) == 0 ? "%03d" : "%d";
        switch (random.nextInt(7)) {
            case 0: case 1: case 2:
                return "+" + rick + ":" + String.format(format, random.nextInt(range)) + "*"
                        + (random.nextInt(30) == 0 ? 0 : 1 + random.nextInt(99));
            case 3: case 4:
                return "-" + rick + ":"
                        + String.format(format, Math.max(0, m.anyWeight(random, rick, range)));
            case 5:
                return random.nextBoolean() ? "=" + rick : ">" + rick + random.nextInt(3);
            default:
                return "%" + (54 + random.nextInt(38));
        }
    }

    private static void compare(LeaningRicks x, Model m, Random random) {
        for (int what = -1; what <= 11; what++) {
            due.is("account(" + what + ")", x.account(what), m.account(what));
        }
        due.is("reason(false)", x.reason(false), m.reason);
        due.is("reason(true)", x.reason(true), m.detail);
        due.is("isBalanced()", x.isBalanced(), 1);
        for (int place = -1; place <= m.account(0); place++) {
            due.is("heaviest(" + place + ")", x.heaviest(place), m.heaviest(place));
        }
        for (int rick = -1; rick <= 3; rick++) {
            compareRick(x, m, random, rick);
        }
    }

    private static void compareRick(LeaningRicks x, Model m, Random random, int rick) {
        for (int what = -1; what <= 9; what++) {
            due.is("rickOf(" + rick + ", " + what + ")", x.rickOf(rick, what), m.rickOf(rick, what));
        }
        due.is("shape(" + rick + ")", x.shape(rick), m.shape(rick));
        due.is("leaningShare(" + rick + ")", x.leaningShare(rick), m.leaningShare(rick));
        due.is("meanDepth(" + rick + ")", x.meanDepth(rick), m.meanDepth(rick));
        due.is("tell(" + rick + ")", x.tell(rick), m.tell(rick));
        for (int i = -1; i <= 60; i++) {
            due.is("character(" + i + ")", x.character(i), m.character(i));
        }
        int bears = 97 + random.nextInt(random.nextBoolean() ? 20 : 905);
        due.is("carts(" + rick + ", " + bears + ")", x.carts(rick, bears), m.carts(rick, bears));
        int from = random.nextInt(950) - 5;
        due.is("weights(" + rick + ", " + from + ")", x.weights(rick, from), m.weights(rick, from));
        for (int place = -1; place <= 30; place++) {
            due.is("at(" + rick + ", " + place + ")", x.at(rick, place), m.at(rick, place));
        }
        for (int i = 0; i < 12; i++) {
            int low = m.anyWeight(random, rick, 1000) + random.nextInt(3) - 1;
            int high = m.anyWeight(random, rick, 1000) + random.nextInt(3) - 1;
            due.is("rank(" + rick + ", " + low + ")", x.rank(rick, low), m.rank(rick, low));
            due.is("rankAgain(" + rick + ", " + low + ")", x.rankAgain(rick, low), m.rank(rick, low));
            String asked = "(" + rick + ", " + low + ", " + high + ")";
            due.is("between" + asked, x.between(rick, low, high), m.between(rick, low, high));
            due.is("betweenAgain" + asked, x.betweenAgain(rick, low, high),
                    m.between(rick, low, high));
            due.is("cartOf", x.cartOf(rick, high, bears), m.cartOf(rick, high, bears));
            for (int what = -1; what <= 8; what++) {
                due.is("sheafOf(" + rick + ", " + high + ", " + what + ")",
                        x.sheafOf(rick, high, what), m.sheafOf(rick, high, what));
            }
        }
    }

    private static final class Sheaf {
        final int weight;
        final int load;
        Sheaf left;
        Sheaf right;

        Sheaf(int weight, int load) {
            this.weight = weight;
            this.load = load;
        }

        static Sheaf copy(Sheaf s) {
            if (s == null) {
                return null;
            }
            Sheaf c = new Sheaf(s.weight, s.load);
            c.left = copy(s.left);
            c.right = copy(s.right);
            return c;
        }

        static int sheaves(Sheaf s) {
            return s == null ? 0 : 1 + sheaves(s.left) + sheaves(s.right);
        }

        static int loads(Sheaf s) {
            return s == null ? 0 : s.load + loads(s.left) + loads(s.right);
        }

        static void collect(Sheaf s, List<Sheaf> order) {
            if (s != null) {
                collect(s.left, order);
                order.add(s);
                collect(s.right, order);
            }
        }

        static Sheaf made(List<Sheaf> order) {
            if (order.isEmpty()) {
                return null;
            }
            int middle = order.size() % 2 == 0 ? order.size() / 2 - 1 : order.size() / 2;
            Sheaf s = order.get(middle);
            s.left = made(order.subList(0, middle));
            s.right = made(order.subList(middle + 1, order.size()));
            return s;
        }

        /** The tree without its lightest sheaf. */
        static Sheaf withoutLightest(Sheaf s) {
            if (s.left == null) {
                return s.right;
            }
            s.left = withoutLightest(s.left);
            return s;
        }

        static Sheaf without(Sheaf s, int weight) {
            if (weight < s.weight) {
                s.left = without(s.left, weight);
                return s;
            }
            if (weight > s.weight) {
                s.right = without(s.right, weight);
                return s;
            }
            if (s.left == null || s.right == null) {
                return s.left == null ? s.right : s.left;
            }
            Sheaf heir = s.right;
            while (heir.left != null) {
                heir = heir.left;
            }
            Sheaf right = withoutLightest(s.right);
            heir.left = s.left;
            heir.right = right;
            return heir;
        }
    }

    private static final class State {
        Sheaf[] top = new Sheaf[3];
        int[] most = new int[3];
        int[] accounts = {0, 0, 0, 0, 0, 0, 0, 0, 70};

        State copy() {
            State c = new State();
            for (int i = 0; i < 3; i++) {
                c.top[i] = Sheaf.copy(top[i]);
            }
            c.most = most.clone();
            c.accounts = accounts.clone();
            return c;
        }
    }

    private interface Change {
        int answer();
    }

    private static final class Model {
        private static final String ORDER =
                "(?:\\+\\d:\\d{1,3}\\*\\d{1,2}|-\\d:\\d{1,3}|=\\d|>\\d\\d|%\\d{1,2})";
        private static final Pattern TEXT = Pattern.compile(ORDER + "(?:;" + ORDER + ")*");

        State s = new State();
        State saved;
        LinkedList<State> past = new LinkedList<>();
        StringBuilder text = new StringBuilder();
        String line = "";
        int reason = NOTHING;
        int detail = NOTHING;

        int anyWeight(Random random, int rick, int range) {
            if (isRick(rick) && s.top[rick] != null && random.nextInt(8) != 0) {
                List<Sheaf> order = order(rick);
                return order.get(random.nextInt(order.size())).weight;
            }
            return random.nextInt(range + 20) - 10;
        }

        static boolean isRick(int rick) {
            return rick >= 0 && rick <= 2;
        }

        List<Sheaf> order(int rick) {
            List<Sheaf> order = new ArrayList<>();
            Sheaf.collect(s.top[rick], order);
            return order;
        }

        List<Sheaf> way(int rick, int weight) {
            List<Sheaf> way = new ArrayList<>();
            Sheaf here = s.top[rick];
            while (here != null) {
                way.add(here);
                if (here.weight == weight) {
                    return way;
                }
                here = weight < here.weight ? here.left : here.right;
            }
            return null;
        }

        boolean leans(Sheaf a) {
            int all = Sheaf.sheaves(a);
            return 100 * Sheaf.sheaves(a.left) > s.accounts[8] * all
                    || 100 * Sheaf.sheaves(a.right) > s.accounts[8] * all;
        }

        int mayHave(int sheaves) {
            int times = 0;
            int n = sheaves;
            while (n * s.accounts[8] / 100 != 0) {
                n = n * s.accounts[8] / 100;
                times++;
            }
            return times;
        }

        int refuse(int why, int what) {
            reason = why;
            detail = what;
            return REFUSED;
        }

        int change(Change change) {
            State before = s.copy();
            int answer = change.answer();
            if (answer < 0) {
                s = before;
            } else {
                past.addLast(before);
                if (past.size() > 8) {
                    past.removeFirst();
                }
            }
            return answer;
        }

        int put(int rick, int weight, int load) {
            if (!isRick(rick)) {
                return NONE;
            }
            if (weight < 0 || weight > 999 || load < 1 || load > 99) {
                return BAD;
            }
            if (way(rick, weight) != null) {
                return refuse(2, weight);
            }
            if (order(rick).size() == 30) {
                return refuse(1, 30);
            }
            Sheaf sheaf = new Sheaf(weight, load);
            if (s.top[rick] == null) {
                s.top[rick] = sheaf;
            } else {
                Sheaf here = s.top[rick];
                while (here != null) {
                    if (weight < here.weight) {
                        if (here.left == null) {
                            here.left = sheaf;
                            break;
                        }
                        here = here.left;
                    } else {
                        if (here.right == null) {
                            here.right = sheaf;
                            break;
                        }
                        here = here.right;
                    }
                }
            }
            s.accounts[2]++;
            int all = order(rick).size();
            s.most[rick] = Math.max(s.most[rick], all);
            List<Sheaf> way = way(rick, weight);
            if (way.size() - 1 <= mayHave(all)) {
                return 0;
            }
            for (int i = way.size() - 1; i >= 0; i--) {
                Sheaf leaning = way.get(i);
                if (leans(leaning)) {
                    List<Sheaf> part = new ArrayList<>();
                    Sheaf.collect(leaning, part);
                    Sheaf anew = Sheaf.made(part);
                    if (i == 0) {
                        s.top[rick] = anew;
                    } else if (way.get(i - 1).left == leaning) {
                        way.get(i - 1).left = anew;
                    } else {
                        way.get(i - 1).right = anew;
                    }
                    s.accounts[4]++;
                    s.accounts[6] += part.size();
                    return part.size();
                }
            }
            return 0;
        }

        void buildWhole(int rick) {
            List<Sheaf> order = order(rick);
            s.top[rick] = Sheaf.made(order);
            s.most[rick] = order.size();
            s.accounts[5]++;
            s.accounts[6] += order.size();
        }

        int take(int rick, int weight) {
            if (!isRick(rick) || way(rick, weight) == null) {
                return NONE;
            }
            List<Sheaf> way = way(rick, weight);
            int load = way.get(way.size() - 1).load;
            s.top[rick] = Sheaf.without(s.top[rick], weight);
            s.accounts[3]++;
            if (100 * order(rick).size() < s.accounts[8] * s.most[rick]) {
                buildWhole(rick);
            }
            return load;
        }

        int build(int rick) {
            if (!isRick(rick)) {
                return NONE;
            }
            if (s.top[rick] == null) {
                return refuse(5, rick);
            }
            Map<Integer, Integer> before = new TreeMap<>();
            for (Sheaf a : order(rick)) {
                before.put(a.weight, way(rick, a.weight).size());
            }
            buildWhole(rick);
            int others = 0;
            for (int weight : before.keySet()) {
                if (way(rick, weight).size() != before.get(weight)) {
                    others++;
                }
            }
            return others;
        }

        int pour(int rick, int into) {
            if (!isRick(rick) || !isRick(into)) {
                return NONE;
            }
            if (rick == into) {
                return refuse(3, rick);
            }
            if (s.top[rick] == null) {
                return refuse(5, rick);
            }
            TreeMap<Integer, Sheaf> all = new TreeMap<>();
            int same = -1;
            for (Sheaf a : order(into)) {
                all.put(a.weight, a);
            }
            int sum = all.size() + order(rick).size();
            for (Sheaf a : order(rick)) {
                if (all.put(a.weight, a) != null && same < 0) {
                    same = a.weight;
                }
            }
            if (sum > 30) {
                return refuse(1, sum);
            }
            if (same >= 0) {
                return refuse(2, same);
            }
            s.top[into] = Sheaf.made(new ArrayList<>(all.values()));
            s.top[rick] = null;
            s.most[rick] = 0;
            buildWhole(into);
            s.accounts[7]++;
            return sum;
        }

        int limit(int limit) {
            if (limit < 55 || limit > 90) {
                return BAD;
            }
            if (limit == s.accounts[8]) {
                return refuse(4, limit);
            }
            int before = s.accounts[8];
            s.accounts[8] = limit;
            return before;
        }

        int append(int code) {
            if (code < 32 || code > 126) {
                return BAD;
            }
            if (text.length() == 60) {
                return FULL;
            }
            text.append((char) code);
            return text.length();
        }

        /** A text can be continued if what is wrong with it is only that it ends there. */
        static boolean canContinue(String start) {
            Matcher matcher = TEXT.matcher(start);
            return matcher.matches() || matcher.hitEnd();
        }

        int run() {
            String all = text.toString();
            text.setLength(0);
            for (int i = 1; i <= all.length(); i++) {
                if (!canContinue(all.substring(0, i))) {
                    return -1000 - (i - 1);
                }
            }
            if (!TEXT.matcher(all).matches()) {
                return -1000 - all.length();
            }
            return change(() -> carryOut(all.split(";")));
        }

        int carryOut(String[] orders) {
            for (int i = 0; i < orders.length; i++) {
                String[] parts = orders[i].substring(1).split("[:*]");
                int first = Integer.parseInt(parts[0]);
                int answer;
                switch (orders[i].charAt(0)) {
                    case '+':
                        answer = put(first, Integer.parseInt(parts[1]), Integer.parseInt(parts[2]));
                        break;
                    case '-': answer = take(first, Integer.parseInt(parts[1])); break;
                    case '=': answer = build(first); break;
                    case '>': answer = pour(first / 10, first % 10); break;
                    default: answer = limit(first);
                }
                if (answer < 0) {
                    return refuse(6, i);
                }
            }
            return orders.length;
        }

        int undo() {
            if (past.isEmpty()) {
                return NOTHING;
            }
            s = past.removeLast();
            return past.size();
        }

        int save() {
            saved = s.copy();
            return account(0);
        }

        int restore() {
            if (saved == null) {
                return NOTHING;
            }
            s = saved.copy();
            past.clear();
            return account(0);
        }

        int account(int what) {
            switch (what) {
                case 0: return order(0).size() + order(1).size() + order(2).size();
                case 1: return Sheaf.loads(s.top[0]) + Sheaf.loads(s.top[1]) + Sheaf.loads(s.top[2]);
                case 2: case 3: case 4: case 5: case 6: case 7: case 8: return s.accounts[what];
                case 9: return text.length();
                case 10: return past.size();
                default: return BAD;
            }
        }

        int sheafOf(int rick, int weight, int what) {
            if (!isRick(rick) || way(rick, weight) == null) {
                return NONE;
            }
            List<Sheaf> way = way(rick, weight);
            Sheaf a = way.get(way.size() - 1);
            switch (what) {
                case 0: return a.load;
                case 1: return way.size() - 1;
                case 2: return Sheaf.sheaves(a);
                case 3: return Sheaf.loads(a);
                case 4: return leans(a) ? 1 : 0;
                case 5: return way.size() == 1 ? NOTHING : way.get(way.size() - 2).weight;
                case 6: return a.left == null ? NOTHING : a.left.weight;
                case 7: return a.right == null ? NOTHING : a.right.weight;
                default: return BAD;
            }
        }

        int rickOf(int rick, int what) {
            if (!isRick(rick)) {
                return NONE;
            }
            List<Sheaf> order = order(rick);
            switch (what) {
                case 0: return order.size();
                case 1: return Sheaf.loads(s.top[rick]);
                case 2: return order.isEmpty() ? NOTHING : s.top[rick].weight;
                case 3: return order.stream().mapToInt(a -> depth(rick, a)).max().orElse(-1);
                case 4: return mayHave(order.size());
                case 5: return s.most[rick];
                case 6: return (int) order.stream().filter(this::leans).count();
                case 7: return order.stream().mapToInt(a -> depth(rick, a)).sum();
                case 8: return (int) order.stream()
                        .filter(a -> a.left == null && a.right == null).count();
                default: return BAD;
            }
        }

        int depth(int rick, Sheaf a) {
            return way(rick, a.weight).size() - 1;
        }

        int rank(int rick, int weight) {
            return !isRick(rick) ? NONE
                    : (int) order(rick).stream().filter(a -> a.weight < weight).count();
        }

        int at(int rick, int place) {
            return !isRick(rick) || place < 0 || place >= order(rick).size() ? NONE
                    : order(rick).get(place).weight;
        }

        int between(int rick, int low, int high) {
            return !isRick(rick) ? NONE : order(rick).stream()
                    .filter(a -> a.weight >= low && a.weight <= high).mapToInt(a -> a.load).sum();
        }

        int heaviest(int place) {
            List<int[]> all = new ArrayList<>();
            for (int rick = 0; rick < 3; rick++) {
                for (Sheaf a : order(rick)) {
                    all.add(new int[] {-a.load, a.weight, rick});
                }
            }
            all.sort((a, b) -> a[0] != b[0] ? Integer.compare(a[0], b[0])
                    : a[1] != b[1] ? Integer.compare(a[1], b[1]) : Integer.compare(a[2], b[2]));
            return place < 0 || place >= all.size() ? NONE
                    : 1000 * all.get(place)[2] + all.get(place)[1];
        }

        List<List<Integer>> loaded(int rick, int bears) {
            List<List<Integer>> carts = new ArrayList<>();
            int room = 0;
            for (Sheaf a : order(rick)) {
                if (carts.isEmpty() || a.load > room) {
                    carts.add(new ArrayList<>());
                    room = bears;
                }
                carts.get(carts.size() - 1).add(a.weight);
                room -= a.load;
            }
            return carts;
        }

        int carts(int rick, int bears) {
            return !isRick(rick) ? NONE : bears < 99 || bears > 999 ? BAD
                    : loaded(rick, bears).size();
        }

        int cartOf(int rick, int weight, int bears) {
            if (!isRick(rick) || way(rick, weight) == null) {
                return NONE;
            }
            if (bears < 99 || bears > 999) {
                return BAD;
            }
            List<List<Integer>> carts = loaded(rick, bears);
            int cart = 0;
            while (!carts.get(cart).contains(weight)) {
                cart++;
            }
            return cart;
        }

        long shape(int rick) {
            return !isRick(rick) ? NONE : Long.parseLong(bits(s.top[rick]), 2);
        }

        static String bits(Sheaf a) {
            return a == null ? "0" : "1" + bits(a.left) + bits(a.right);
        }

        long weights(int rick, int from) {
            long bits = 0;
            if (isRick(rick) && from >= 0 && from <= 936) {
                for (int k = 0; k < 64; k++) {
                    bits |= way(rick, from + k) != null ? 1L << k : 0L;
                }
            }
            return bits;
        }

        int leaningShare(int rick) {
            return !isRick(rick) ? NONE : s.top[rick] == null ? NOTHING
                    : Float.floatToIntBits((float) rickOf(rick, 6) / (float) rickOf(rick, 0));
        }

        long meanDepth(int rick) {
            return !isRick(rick) ? NONE : s.top[rick] == null ? NOTHING
                    : Double.doubleToLongBits((double) rickOf(rick, 7) / (double) rickOf(rick, 0));
        }

        String written(Sheaf a) {
            return a == null ? "" : "(" + written(a.left) + a.weight + (leans(a) ? "!" : "")
                    + written(a.right) + ")";
        }

        int tell(int rick) {
            if (!isRick(rick)) {
                return NONE;
            }
            String all = written(s.top[rick]);
            line = all.length() > 60 ? all.substring(0, 60) : all;
            return line.length();
        }

        int character(int index) {
            return index < 0 || index >= line.length() ? NONE : line.charAt(index);
        }
    }
}
