import java.util.ArrayList;
import java.util.List;
import java.util.regex.Matcher;
import java.util.regex.Pattern;

/** The document again, by trying everything: slow, and written apart from the program. */
final class Plain {
    static final class Holder {
        char kind;
        int price;
        int sort;
        int wed = -9;
    }

    static final class Work {
        int doer;
        char form;
        int length;
        int by;
        int worth;
        int sort;
    }

    static final class State {
        List<Holder> holders = new ArrayList<>();
        List<List<Integer>> hours = new ArrayList<>();
        List<Work> works = new ArrayList<>();
        List<Boolean> strike = new ArrayList<>();
        int bell = -1;
        int bellSort;
        int[] season = {100, 100, 100, 100};

        State() {
            for (int h = 0; h < 28; h++) {
                hours.add(new ArrayList<>());
            }
        }

        State copy() {
            State s = new State();
            for (Holder h : holders) {
                Holder c = new Holder();
                c.kind = h.kind;
                c.price = h.price;
                c.sort = h.sort;
                c.wed = h.wed;
                s.holders.add(c);
            }
            for (int h = 0; h < 28; h++) {
                s.hours.get(h).addAll(hours.get(h));
            }
            s.works.addAll(works);
            s.strike.addAll(strike);
            s.bell = bell;
            s.bellSort = bellSort;
            s.season = season.clone();
            return s;
        }
    }

    private static final String STATEMENT =
        "p[osyjknt][0-9][0-9];|h[0-9][0-9]{1,2}-[0-9]{1,2};|w[0-9][rs][0-9],[0-9]{1,2},[0-9]{1,2},[0-9];";
    private static final Pattern TOWN = Pattern.compile("(" + STATEMENT + ")+");
    private static final Pattern ONE_STATEMENT = Pattern.compile(STATEMENT);
    private static final Pattern NUMBER = Pattern.compile("[0-9]+");

    State s = new State();
    State image;
    String tape = "";
    List<Integer> row = new ArrayList<>();
    int[] refused = new int[7];

    int refuse(int number) {
        refused[-number]++;
        return number;
    }

    boolean noHolder(int h) {
        return h < 0 || h >= s.holders.size();
    }

    boolean noWork(int w) {
        return w < 0 || w >= s.works.size();
    }

    boolean noHour(int h) {
        return h < 0 || h > 27;
    }

    int feed(int n, long bytes) {
        if (n < 1) return refuse(-4);
        if (n > 8 || tape.length() + n > 64) return refuse(-6);
        for (int i = 0; i < n; i++) {
            tape += (char) (bytes & 255);
            bytes >>>= 8;
        }
        return tape.length();
    }

    int town() {
        String text = tape;
        tape = "";
        for (int k = 1; k <= text.length(); k++) {
            Matcher m = TOWN.matcher(text.substring(0, k));
            if (!m.matches() && !m.hitEnd()) return -1000 - (k - 1);
        }
        if (!TOWN.matcher(text).matches()) return -1000 - text.length();
        State next = s.copy();
        Matcher m = ONE_STATEMENT.matcher(text);
        int n = 0;
        while (m.find()) {
            if (!tell(next, m.group())) return -2000 - m.start();
            n++;
        }
        s = next;
        return n;
    }

    private static int digit(String t, int i) {
        return t.charAt(i) - '0';
    }

    private static boolean tell(State t, String text) {
        if (text.charAt(0) == 'p') {
            Holder h = new Holder();
            h.kind = text.charAt(1);
            h.price = digit(text, 2);
            h.sort = digit(text, 3);
            t.holders.add(h);
            t.strike.add(false);
            return t.holders.size() <= 8;
        }
        int who = digit(text, 1);
        if (who >= t.holders.size()) return false;
        List<Integer> numbers = new ArrayList<>();
        Matcher m = NUMBER.matcher(text.substring(text.charAt(0) == 'h' ? 2 : 3));
        while (m.find()) numbers.add(Integer.valueOf(m.group()));
        if (text.charAt(0) == 'h') {
            int first = numbers.get(0);
            int last = numbers.get(1);
            if (first > 27 || last > 27 || last < first) return false;
            for (int h = first; h <= last; h++) {
                if (t.hours.get(h).contains(who)) return false;
                t.hours.get(h).add(who);
                if (t.hours.get(h).size() > 3) return false;
            }
            return true;
        }
        Work w = new Work();
        w.doer = who;
        w.form = text.charAt(2);
        w.length = numbers.get(0);
        w.by = numbers.get(1);
        w.worth = numbers.get(2);
        w.sort = numbers.get(3);
        t.works.add(w);
        return w.length >= 1 && w.length <= 6 && w.by <= 27 && t.works.size() <= 6;
    }

    /** -9 no leave. */
    int part(Work w, int holder, int hour) {
        Holder h = s.holders.get(holder);
        if (w.doer == holder) return 0;
        if (s.bell == hour && s.bellSort == w.sort) return 0;
        if (h.wed == w.doer) return 0;
        if (s.strike.get(holder)) return -9;
        switch (h.kind) {
            case 'o': return h.price;
            case 'y': return (int) Math.ceil(2.0 * h.price / w.length);
            case 's':
                for (int i = 0; i < 28; i++) {
                    if (i / 4 == hour / 4 && s.hours.get(i).contains(w.doer)) return 0;
                }
                return 2 * h.price;
            case 'j': return h.price * s.hours.get(hour).size();
            case 'k': return h.sort == w.sort ? h.price : -9;
            case 'n': return hour % 4 == 3 ? 0 : h.price;
            default: return -9;
        }
    }

    int hourCost(Work w, int hour) {
        int sum = 0;
        for (int p : s.hours.get(hour)) {
            int c = part(w, p, hour);
            if (c == -9) return -9;
            sum += c;
        }
        return sum;
    }

    private int bestBits;
    private int bestCost;
    private final int[] costs = new int[28];

    void choose(Work w) {
        bestBits = 0;
        bestCost = -9;
        for (int h = 0; h < 28; h++) costs[h] = h > w.by ? -9 : hourCost(w, h);
        if (w.form == 'r') {
            for (int b = 0; b + w.length <= 28; b++) {
                int sum = 0;
                boolean can = true;
                for (int h = b; h < b + w.length; h++) {
                    can &= costs[h] != -9;
                    sum += costs[h];
                }
                if (can) offer(((1 << w.length) - 1) << b, sum);
            }
        } else {
            spread(w.length, 0, 0, 0);
        }
    }

    private void spread(int wanted, int day, int bits, int sum) {
        if (wanted == 0) {
            offer(bits, sum);
            return;
        }
        if (7 - day < wanted) return;
        spread(wanted, day + 1, bits, sum);
        for (int h = day * 4; h < day * 4 + 4; h++) {
            if (costs[h] != -9) spread(wanted - 1, day + 1, bits | 1 << h, sum + costs[h]);
        }
    }

    private void offer(int bits, int sum) {
        if (bestCost == -9 || sum < bestCost || sum == bestCost && bits < bestBits) {
            bestCost = sum;
            bestBits = bits;
        }
    }

    int one(int w) {
        if (noWork(w)) return refuse(-1);
        choose(s.works.get(w));
        return bestBits;
    }

    int cost(int w) {
        if (noWork(w)) return refuse(-1);
        choose(s.works.get(w));
        return bestCost;
    }

    private int netAt(Work w, int worth) {
        choose(w);
        if (bestCost == -9 || worth - bestCost < 0) return -9;
        return worth - bestCost;
    }

    int net(int w) {
        if (noWork(w)) return refuse(-1);
        return netAt(s.works.get(w), s.works.get(w).worth);
    }

    int holder(int h, int what) {
        if (noHolder(h)) return refuse(-1);
        Holder x = s.holders.get(h);
        switch (what) {
            case 0: return "oysjknt".indexOf(x.kind);
            case 1: return x.price;
            case 2: return x.sort;
            case 3: return (int) s.hours.stream().filter(l -> l.contains(h)).count();
            case 4: return income(h);
            default: return refuse(-2);
        }
    }

    int income(int h) {
        int sum = 0;
        for (Work w : s.works) {
            if (netAt(w, w.worth) == -9) continue;
            for (int i = 0; i < 28; i++) {
                if ((bestBits >> i & 1) == 1 && s.hours.get(i).contains(h)) sum += part(w, h, i);
            }
        }
        return sum;
    }

    int hour(int h, int i) {
        if (noHour(h)) return refuse(-1);
        if (i < -1) return refuse(-4);
        List<Integer> l = s.hours.get(h);
        if (i == -1) return l.size();
        return i < l.size() ? l.get(i) : -9;
    }

    int work(int w, int what) {
        if (noWork(w)) return refuse(-1);
        Work x = s.works.get(w);
        switch (what) {
            case 0: return x.doer;
            case 1: return x.form == 's' ? 1 : 0;
            case 2: return x.length;
            case 3: return x.by;
            case 4: return x.worth;
            case 5: return x.sort;
            default: return refuse(-2);
        }
    }

    int price(int h, int v) {
        if (noHolder(h)) return refuse(-1);
        if (v < 0) return refuse(-4);
        if (v > 9) return refuse(-6);
        int was = s.holders.get(h).price;
        s.holders.get(h).price = v;
        return was;
    }

    private int strikers() {
        int bits = 0;
        for (int h = 0; h < s.holders.size(); h++) {
            if (s.strike.get(h)) bits |= 1 << h;
        }
        return bits;
    }

    private void setStrikers(int bits) {
        for (int h = 0; h < s.holders.size(); h++) s.strike.set(h, (bits >> h & 1) == 1);
    }

    int strike(int bits) {
        for (int i = s.holders.size(); i < 32; i++) {
            if ((bits >> i & 1) == 1) return refuse(-1);
        }
        int was = strikers();
        setStrikers(bits);
        return was;
    }

    int bell(int hour, int sort) {
        if (hour < -1 || hour > 27) return refuse(-1);
        if (sort < 0) return refuse(-4);
        if (sort > 9) return refuse(-6);
        int was = s.bell;
        s.bell = hour;
        s.bellSort = sort;
        return was == -1 ? -9 : was;
    }

    int leave(int w, int h, int hour) {
        if (noWork(w) || noHolder(h) || noHour(hour)) return refuse(-1);
        return s.hours.get(hour).contains(h) ? part(s.works.get(w), h, hour) : 0;
    }

    private boolean can(Work w) {
        choose(w);
        return bestCost != -9;
    }

    int bars(int w) {
        if (noWork(w)) return refuse(-1);
        Work x = s.works.get(w);
        if (can(x)) return refuse(-3);
        int bits = 0;
        for (int h = 0; h < s.holders.size(); h++) {
            State was = s;
            s = s.copy();
            s.strike.set(h, false);
            s.holders.get(h).kind = 'o';
            if (can(x)) bits |= 1 << h;
            s = was;
        }
        return bits;
    }

    private int planMost;
    private int[] planBegin;

    private void plan(int i, int used, int sum, int[] begin) {
        if (i == s.works.size()) {
            if (sum > planMost) {
                planMost = sum;
                planBegin = begin.clone();
            }
            return;
        }
        Work w = s.works.get(i);
        begin[i] = -9;
        plan(i + 1, used, sum, begin);
        if (w.form == 's') return;
        for (int b = 0; b + w.length - 1 <= w.by; b++) {
            int bits = 0;
            int gain = w.worth;
            boolean can = true;
            for (int h = b; h < b + w.length; h++) {
                bits |= 1 << h;
                int c = hourCost(w, h);
                can &= c != -9;
                gain -= c;
            }
            if (can && (used & bits) == 0) {
                begin[i] = b;
                plan(i + 1, used | bits, sum + gain, begin);
            }
        }
        begin[i] = -9;
    }

    private boolean planned() {
        if (s.works.stream().filter(w -> w.form == 'r').count() > 3) return false;
        planMost = Integer.MIN_VALUE;
        plan(0, 0, 0, new int[s.works.size()]);
        return true;
    }

    int all() {
        return planned() ? planMost : refuse(-6);
    }

    int begin(int w) {
        if (noWork(w)) return refuse(-1);
        return planned() ? planBegin[w] : refuse(-6);
    }

    private int asks(int h) {
        int was = s.holders.get(h).price;
        int best = 0;
        int most = Integer.MIN_VALUE;
        for (int p = 0; p < 10; p++) {
            s.holders.get(h).price = p;
            int i = income(h);
            if (i > most) {
                most = i;
                best = p;
            }
        }
        s.holders.get(h).price = was;
        return best;
    }

    int ask(int h) {
        return noHolder(h) ? refuse(-1) : asks(h);
    }

    int rest() {
        State was = s;
        s = s.copy();
        int rounds = 0;
        boolean changed = true;
        while (changed && rounds < 10) {
            rounds++;
            changed = false;
            for (int h = 0; h < s.holders.size(); h++) {
                int p = asks(h);
                if (p != s.holders.get(h).price) changed = true;
                s.holders.get(h).price = p;
            }
        }
        s = was;
        return changed ? -9 : rounds;
    }

    private boolean canWith(Work w, int strikers) {
        int was = strikers();
        setStrikers(strikers);
        boolean can = can(w);
        setStrikers(was);
        return can;
    }

    int stop(int w) {
        if (noWork(w)) return refuse(-1);
        Work x = s.works.get(w);
        for (int size = 0; size <= 8; size++) {
            for (int set = 0; set < 1 << s.holders.size(); set++) {
                if (Integer.bitCount(set) != size || (set >> x.doer & 1) == 1) continue;
                if (!canWith(x, strikers() | set)) return set;
            }
        }
        return -9;
    }

    int stopAll() {
        for (int size = 0; size <= 8; size++) {
            for (int set = 0; set < 1 << s.holders.size(); set++) {
                if (Integer.bitCount(set) != size) continue;
                boolean good = true;
                for (Work w : s.works) {
                    if (good && (set >> w.doer & 1) == 0) good = !canWith(w, strikers() | set);
                }
                if (good) return set;
            }
        }
        return -99;
    }

    private int ordersAll;
    private int ordersPivotal;

    private void orders(Work w, int h, List<Integer> left, int behind, int found) {
        if (left.isEmpty()) {
            ordersAll++;
            ordersPivotal += found;
            return;
        }
        for (int i = 0; i < left.size(); i++) {
            int who = left.get(i);
            List<Integer> rest = new ArrayList<>(left);
            rest.remove(i);
            int pivotal = found;
            if (who == h) {
                boolean ahead = canWith(w, strikers() | behind);
                boolean with = canWith(w, strikers() | behind & ~(1 << h));
                pivotal = with && !ahead ? 1 : 0;
            }
            orders(w, h, rest, behind & ~(1 << who), pivotal);
        }
    }

    int power(int h, int w, int part) {
        if (noHolder(h) || noWork(w) || s.works.get(w).doer == h) return refuse(-1);
        if (part != 0 && part != 1) return refuse(-2);
        if (s.holders.size() > 6) return refuse(-6);
        List<Integer> others = new ArrayList<>();
        int behind = 0;
        for (int i = 0; i < s.holders.size(); i++) {
            if (i != s.works.get(w).doer) {
                others.add(i);
                behind |= 1 << i;
            }
        }
        ordersAll = 0;
        ordersPivotal = 0;
        orders(s.works.get(w), h, others, behind, 0);
        int a = ordersPivotal;
        int b = ordersAll;
        while (b != 0) {
            int t = a % b;
            a = b;
            b = t;
        }
        return (part == 0 ? ordersPivotal : ordersAll) / a;
    }

    private int worksOf(int h) {
        int sum = 0;
        for (Work w : s.works) {
            if (w.doer == h) sum += can(w) ? bestCost : 100;
        }
        return sum;
    }

    int wed(int h) {
        if (noHolder(h)) return refuse(-1);
        int least = worksOf(h);
        int best = -9;
        for (int o = 0; o < s.holders.size(); o++) {
            if (o == h) continue;
            State was = s;
            s = s.copy();
            unite(h, o);
            int sum = worksOf(h);
            s = was;
            if (sum < least) {
                least = sum;
                best = o;
            }
        }
        return best;
    }

    private void unite(int a, int b) {
        for (Holder h : s.holders) {
            if (h.wed == a || h.wed == b) h.wed = -9;
        }
        s.holders.get(a).wed = b;
        s.holders.get(b).wed = a;
    }

    int marry(int a, int b) {
        if (noHolder(a) || noHolder(b) || a == b) return refuse(-1);
        unite(a, b);
        return 1;
    }

    int wedTo(int h) {
        return noHolder(h) ? refuse(-1) : s.holders.get(h).wed;
    }

    int heirs(int hour, int leaves) {
        if (noHour(hour)) return refuse(-1);
        if (leaves < 0) return refuse(-4);
        if (leaves > 9999) return refuse(-6);
        long parts = s.hours.get(hour).size();
        for (int lives = 0; lives <= 20; lives++) {
            if (parts > leaves) return lives;
            parts = 2 * parts;
        }
        return -9;
    }

    int give() {
        int best = -9;
        int most = Integer.MIN_VALUE;
        for (int h = 0; h < s.holders.size(); h++) {
            State was = s;
            s = s.copy();
            for (List<Integer> l : s.hours) {
                if (l.isEmpty()) l.add(h);
            }
            int sum = 0;
            for (Work w : s.works) sum += Math.max(0, netAt(w, w.worth));
            s = was;
            if (sum > most) {
                most = sum;
                best = h;
            }
        }
        return best;
    }

    int together(int a, int b) {
        if (noHolder(a) || noHolder(b) || a == b) return refuse(-1);
        return (int) s.hours.stream().filter(l -> l.contains(a) && l.contains(b)).count();
    }

    int season(int i, int v) {
        if (i < 0 || i > 3) return refuse(-1);
        if (v < 0) return refuse(-4);
        if (v > 300) return refuse(-6);
        int was = s.season[i];
        s.season[i] = v;
        return was;
    }

    int year() {
        int sum = 0;
        for (int p : s.season) {
            for (Work w : s.works) sum += Math.max(0, netAt(w, w.worth * p / 100));
        }
        return sum;
    }

    int years(int n, int z) {
        if (n < 1) return refuse(-4);
        if (n > 10) return refuse(-6);
        int sum = 0;
        for (int i = 0; i < n; i++) {
            for (Work w : s.works) {
                z = (int) (z * 1664525L + 1013904223L);
                int draw = (int) ((z & 0x7fffffffL) / 256 % (2 * w.worth + 1));
                sum += Math.max(0, netAt(w, draw));
            }
        }
        return sum;
    }

    int row(int v) {
        if (v < 0) return refuse(-4);
        if (v > 9 || row.size() >= 28) return refuse(-6);
        row.add(v);
        return row.size();
    }

    int judge(int what) {
        if (what != 0 && what != 1) return refuse(-2);
        int found = what == 0 ? judged() : notDone();
        row.clear();
        return found;
    }

    private int judged() {
        for (int h = 0; h < row.size(); h++) {
            int w = row.get(h);
            if (w == 9) continue;
            if (noWork(w) || hourCost(s.works.get(w), h) == -9 || h > s.works.get(w).by) return h;
        }
        return -9;
    }

    private int notDone() {
        for (int i = 0; i < s.works.size(); i++) {
            Work w = s.works.get(i);
            List<Integer> hours = new ArrayList<>();
            for (int h = 0; h < row.size(); h++) {
                if (row.get(h) == i) hours.add(h);
            }
            if (hours.size() != w.length) return i;
            if (w.form == 'r' && hours.get(w.length - 1) - hours.get(0) != w.length - 1) return i;
            if (w.form == 's' && hours.stream().map(h -> h / 4).distinct().count() != w.length) return i;
        }
        return -9;
    }

    int image() {
        image = s.copy();
        return s.holders.size();
    }

    int on() {
        if (image == null) return refuse(-3);
        s = image.copy();
        return s.holders.size();
    }

    int count(int what) {
        if (what == 0) return s.holders.size();
        if (what == 1) return s.works.size();
        if (what == 2) return (int) s.hours.stream().filter(List::isEmpty).count();
        if (what == 3) return s.hours.stream().mapToInt(List::size).sum();
        if (what == 4) return Integer.bitCount(strikers());
        if (what == 5) return row.size();
        if (what == 6) return tape.length();
        if (what >= 11 && what <= 16) return refused[what - 10];
        return -9;
    }
}
