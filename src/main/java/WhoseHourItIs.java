/**
 * A week of hours that belong to holders in parts, the leaves that holders give, and the works that
 * want hours. The document ../shared/DOC.md says what every call answers.
 */
public final class WhoseHourItIs {
    private static final int HOURS = 28;
    private static final int DAYS = 7;
    private static final int DAY_HOURS = 4;
    private static final int ONE_DAY = 15;
    private static final int MOST_PARTS = 3;
    private static final int MOST_HOLDERS = 8;
    private static final int MOST_WORKS = 6;
    private static final int MOST_ROWS = 3;
    private static final int SEASONS = 4;
    private static final int TAPE = 64;
    private static final int GREATEST_DIGIT = 9;

    private static final int NONE = -9;

    private static final int NOBODY = -1;
    private static final int OTHER = -2;
    private static final int STATE = -3;
    private static final int BELOW = -4;
    private static final int ROOM = -6;
    private static final int REFUSALS = 6;

    // Places in a holder's numbers, in the order in which a town tells them.
    private static final int KIND = 0;
    private static final int PRICE = 1;
    private static final int FOR = 2;
    private static final int HOLDER_NUMBERS = 3;
    private static final int HELD = 3;
    private static final int INCOME = 4;

    // Places in a work's numbers, in the order in which a town tells them.
    private static final int DOER = 0;
    private static final int SPREAD = 1;
    private static final int LENGTH = 2;
    private static final int BY = 3;
    private static final int WORTH = 4;
    private static final int SORT = 5;
    private static final int WORK_NUMBERS = 6;

    // Kinds of leave: each is its letter's place in KIND_LETTERS.
    private static final String KIND_LETTERS = "oysjknt";
    private static final int YEARLY = 1;
    private static final int SWAP = 2;
    private static final int JOINT = 3;
    private static final int BY_SORT = 4;
    private static final int BY_DAY = 5;
    private static final int NEVER = 6;

    private final Town now = new Town();
    private final Town draft = new Town();
    private final Town kept = new Town();
    private boolean hasImage;
    private final Tape tape = new Tape();
    private final Costs costs = new Costs(now);
    private final Market market = new Market(now, costs);
    private final Plan plan = new Plan(now, costs);
    private final Strikes strikes = new Strikes(now);
    private final Outlook outlook = new Outlook(now, costs);
    private final Row week = new Row(now, costs);
    private final int[] refusals = new int[REFUSALS + 1];

    public WhoseHourItIs() {
    }

    public int feed(int n, long bytes) {
        if (n < 1) {
            return refuse(BELOW);
        }
        if (n > 8 || tape.size + n > TAPE) {
            return refuse(ROOM);
        }
        tape.put(n, bytes);
        return tape.size;
    }

    public int town() {
        int answer = tape.formFault();
        if (answer == 0) {
            draft.copyFrom(now);
            answer = tape.tellTo(draft);
            if (answer > 0) {
                now.copyFrom(draft);
            }
        }
        tape.size = 0;
        return answer;
    }

    public int holder(int holder, int what) {
        if (!now.hasHolder(holder)) {
            return refuse(NOBODY);
        }
        if (what < 0 || what > INCOME) {
            return refuse(OTHER);
        }
        if (what == HELD) {
            return Integer.bitCount(now.hoursOf[holder]);
        }
        if (what == INCOME) {
            return market.earned(holder);
        }
        return now.holderOf[holder][what];
    }

    public int hour(int hour, int i) {
        if (!isHour(hour)) {
            return refuse(NOBODY);
        }
        if (i < -1) {
            return refuse(BELOW);
        }
        if (i == -1) {
            return now.parts[hour];
        }
        return i < now.parts[hour] ? now.partOf[hour][i] : NONE;
    }

    public int work(int work, int what) {
        if (!now.hasWork(work)) {
            return refuse(NOBODY);
        }
        if (what < 0 || what >= WORK_NUMBERS) {
            return refuse(OTHER);
        }
        return now.workOf[work][what];
    }

    public int price(int holder, int v) {
        if (!now.hasHolder(holder)) {
            return refuse(NOBODY);
        }
        int wrong = outside(v, GREATEST_DIGIT);
        if (wrong != 0) {
            return refuse(wrong);
        }
        int was = now.holderOf[holder][PRICE];
        now.holderOf[holder][PRICE] = v;
        return was;
    }

    public int strike(int bits) {
        if ((bits & ~now.everyone()) != 0) {
            return refuse(NOBODY);
        }
        int was = now.strike;
        now.strike = bits;
        return was;
    }

    public int bell(int hour, int sort) {
        if (hour != -1 && !isHour(hour)) {
            return refuse(NOBODY);
        }
        int wrong = outside(sort, GREATEST_DIGIT);
        if (wrong != 0) {
            return refuse(wrong);
        }
        int was = now.bellHour;
        now.bellHour = hour == -1 ? NONE : hour;
        now.bellSort = sort;
        return was;
    }

    public int leave(int work, int holder, int hour) {
        if (!now.hasWork(work) || !now.hasHolder(holder) || !isHour(hour)) {
            return refuse(NOBODY);
        }
        return now.holds(holder, hour) ? costs.partCost(work, holder, hour) : 0;
    }

    public int one(int work) {
        if (!now.hasWork(work)) {
            return refuse(NOBODY);
        }
        costs.choose(work);
        return costs.bits;
    }

    public int cost(int work) {
        if (!now.hasWork(work)) {
            return refuse(NOBODY);
        }
        costs.choose(work);
        return costs.sum;
    }

    public int net(int work) {
        if (!now.hasWork(work)) {
            return refuse(NOBODY);
        }
        costs.choose(work);
        return netOf(now.workOf[work][WORTH], costs.sum);
    }

    public int bars(int work) {
        if (!now.hasWork(work)) {
            return refuse(NOBODY);
        }
        int found = strikes.barring(work);
        return found == NONE ? refuse(STATE) : found;
    }

    public int all() {
        if (now.rowWorks() > MOST_ROWS) {
            return refuse(ROOM);
        }
        plan.make();
        return plan.most;
    }

    public int begin(int work) {
        if (!now.hasWork(work)) {
            return refuse(NOBODY);
        }
        if (now.rowWorks() > MOST_ROWS) {
            return refuse(ROOM);
        }
        plan.make();
        return plan.beginOf(work);
    }

    public int ask(int holder) {
        return now.hasHolder(holder) ? market.bestPrice(holder) : refuse(NOBODY);
    }

    public int rest() {
        return market.roundsToRest();
    }

    public int stop(int work) {
        return now.hasWork(work) ? strikes.fewestToStop(work) : refuse(NOBODY);
    }

    public int stopAll() {
        return strikes.fewestToStopEach();
    }

    public int power(int holder, int work, int part) {
        if (!now.hasHolder(holder) || !now.hasWork(work) || now.workOf[work][DOER] == holder) {
            return refuse(NOBODY);
        }
        if (part < 0 || part > 1) {
            return refuse(OTHER);
        }
        if (now.holders > Strikes.ORDERED + 1) {
            return refuse(ROOM);
        }
        int ways = strikes.pivotalOrders(holder, work);
        int orders = strikes.orders();
        int shared = greatestShared(ways, orders);
        return (part == 0 ? ways : orders) / Math.max(1, shared);
    }

    public int wed(int holder) {
        return now.hasHolder(holder) ? outlook.bestSpouse(holder) : refuse(NOBODY);
    }

    public int marry(int one, int other) {
        if (!now.hasHolder(one) || !now.hasHolder(other) || one == other) {
            return refuse(NOBODY);
        }
        now.unwed(one);
        now.unwed(other);
        now.spouse[one] = other;
        now.spouse[other] = one;
        return 1;
    }

    public int wedTo(int holder) {
        return now.hasHolder(holder) ? now.spouse[holder] : refuse(NOBODY);
    }

    public int heirs(int hour, int leaves) {
        if (!isHour(hour)) {
            return refuse(NOBODY);
        }
        int wrong = outside(leaves, 9999);
        if (wrong != 0) {
            return refuse(wrong);
        }
        for (int lives = 0; lives <= 20; lives++) {
            if (now.parts[hour] << lives > leaves) {
                return lives;
            }
        }
        return NONE;
    }

    public int give() {
        return outlook.bestTaker();
    }

    public int together(int one, int other) {
        if (!now.hasHolder(one) || !now.hasHolder(other) || one == other) {
            return refuse(NOBODY);
        }
        return Integer.bitCount(now.hoursOf[one] & now.hoursOf[other]);
    }

    public int season(int season, int v) {
        if (season < 0 || season >= SEASONS) {
            return refuse(NOBODY);
        }
        int wrong = outside(v, 300);
        if (wrong != 0) {
            return refuse(wrong);
        }
        int was = now.hundredths[season];
        now.hundredths[season] = v;
        return was;
    }

    public int year() {
        return outlook.ofSeasons();
    }

    public int years(int n, int z) {
        if (n < 1) {
            return refuse(BELOW);
        }
        if (n > 10) {
            return refuse(ROOM);
        }
        return outlook.ofDraws(n, z);
    }

    public int row(int v) {
        if (v < 0) {
            return refuse(BELOW);
        }
        if (v > GREATEST_DIGIT || week.size >= HOURS) {
            return refuse(ROOM);
        }
        week.put(v);
        return week.size;
    }

    public int judge(int what) {
        if (what < 0 || what > 1) {
            return refuse(OTHER);
        }
        int found = what == 0 ? week.firstWrongHour() : week.firstNotDone();
        week.size = 0;
        return found;
    }

    public int image() {
        kept.copyFrom(now);
        hasImage = true;
        return kept.holders;
    }

    public int on() {
        if (!hasImage) {
            return refuse(STATE);
        }
        now.copyFrom(kept);
        return now.holders;
    }

    public int count(int what) {
        switch (what) {
            case 0:
                return now.holders;
            case 1:
                return now.works;
            case 2:
                return now.hoursOfNobody();
            case 3:
                return now.allParts();
            case 4:
                return Integer.bitCount(now.strike);
            case 5:
                return week.size;
            case 6:
                return tape.size;
            default:
                return what > 10 && what <= 10 + REFUSALS ? refusals[what - 10] : NONE;
        }
    }

    private int refuse(int number) {
        if (number < 0 && number >= -REFUSALS) {
            refusals[-number]++;
        }
        return number;
    }

    /** The refusal that a number of 0 .. greatest wants, or 0. */
    private static int outside(int v, int greatest) {
        if (v < 0) {
            return BELOW;
        }
        return v > greatest ? ROOM : 0;
    }

    private static boolean isHour(int hour) {
        return hour >= 0 && hour < HOURS;
    }

    private static boolean isIn(int bits, int i) {
        return (bits >> i & 1) == 1;
    }

    private static int netOf(int worth, int sum) {
        return sum == NONE || worth < sum ? NONE : worth - sum;
    }

    private static int greatestShared(int a, int b) {
        for (int d = b; d > 1; d--) {
            if (a % d == 0 && b % d == 0) {
                return d;
            }
        }
        return 1;
    }

    /** Everything that an image keeps. */
    private static final class Town {
        int holders;
        int works;
        int strike;
        int bellHour = NONE;
        int bellSort;
        final int[][] holderOf = new int[MOST_HOLDERS][HOLDER_NUMBERS];
        final int[] hoursOf = new int[MOST_HOLDERS];
        final int[] spouse = {NONE, NONE, NONE, NONE, NONE, NONE, NONE, NONE};
        final int[] parts = new int[HOURS];
        final int[][] partOf = new int[HOURS][MOST_PARTS];
        final int[][] workOf = new int[MOST_WORKS][WORK_NUMBERS];
        final int[] hundredths = {100, 100, 100, 100};

        void copyFrom(Town other) {
            holders = other.holders;
            works = other.works;
            strike = other.strike;
            bellHour = other.bellHour;
            bellSort = other.bellSort;
            for (int i = 0; i < MOST_HOLDERS; i++) {
                System.arraycopy(other.holderOf[i], 0, holderOf[i], 0, HOLDER_NUMBERS);
            }
            for (int i = 0; i < HOURS; i++) {
                System.arraycopy(other.partOf[i], 0, partOf[i], 0, MOST_PARTS);
            }
            for (int i = 0; i < MOST_WORKS; i++) {
                System.arraycopy(other.workOf[i], 0, workOf[i], 0, WORK_NUMBERS);
            }
            System.arraycopy(other.hoursOf, 0, hoursOf, 0, MOST_HOLDERS);
            System.arraycopy(other.spouse, 0, spouse, 0, MOST_HOLDERS);
            System.arraycopy(other.parts, 0, parts, 0, HOURS);
            System.arraycopy(other.hundredths, 0, hundredths, 0, SEASONS);
        }

        boolean hasHolder(int holder) {
            return holder >= 0 && holder < holders;
        }

        boolean hasWork(int work) {
            return work >= 0 && work < works;
        }

        int everyone() {
            return (1 << holders) - 1;
        }

        boolean holds(int holder, int hour) {
            return isIn(hoursOf[holder], hour);
        }

        int rowWorks() {
            int found = 0;
            for (int work = 0; work < works; work++) {
                found += 1 - workOf[work][SPREAD];
            }
            return found;
        }

        int hoursOfNobody() {
            int found = 0;
            for (int hour = 0; hour < HOURS; hour++) {
                if (parts[hour] == 0) {
                    found++;
                }
            }
            return found;
        }

        int allParts() {
            int sum = 0;
            for (int hour = 0; hour < HOURS; hour++) {
                sum += parts[hour];
            }
            return sum;
        }

        boolean addHolder(int[] told) {
            if (holders >= MOST_HOLDERS) {
                return false;
            }
            System.arraycopy(told, 0, holderOf[holders], 0, HOLDER_NUMBERS);
            holders++;
            return true;
        }

        boolean addWork(int[] told) {
            if (works >= MOST_WORKS || !hasHolder(told[DOER]) || !isHour(told[BY])) {
                return false;
            }
            if (told[LENGTH] < 1 || told[LENGTH] > 6) {
                return false;
            }
            System.arraycopy(told, 0, workOf[works], 0, WORK_NUMBERS);
            works++;
            return true;
        }

        boolean addParts(int holder, int first, int last) {
            if (!hasHolder(holder) || !isHour(first) || !isHour(last) || first > last) {
                return false;
            }
            for (int hour = first; hour <= last; hour++) {
                if (parts[hour] >= MOST_PARTS || holds(holder, hour)) {
                    return false;
                }
                addPart(holder, hour);
            }
            return true;
        }

        void addPart(int holder, int hour) {
            partOf[hour][parts[hour]] = holder;
            parts[hour]++;
            hoursOf[holder] |= 1 << hour;
        }

        void takeOnlyPart(int holder, int hour) {
            parts[hour] = 0;
            hoursOf[holder] &= ~(1 << hour);
        }

        void unwed(int holder) {
            int other = spouse[holder];
            if (other >= 0) {
                spouse[other] = NONE;
            }
            spouse[holder] = NONE;
        }

        /** Whether a holder's part of an hour costs a work nothing and needs no leave. */
        boolean isFree(int work, int holder, int hour) {
            int doer = workOf[work][DOER];
            return holder == doer || spouse[doer] == holder
                || hour == bellHour && workOf[work][SORT] == bellSort;
        }

        /** Whether a holder's kind knows leave for a work at all. */
        boolean kindLets(int work, int holder) {
            int kind = holderOf[holder][KIND];
            if (kind == NEVER) {
                return false;
            }
            return kind != BY_SORT || holderOf[holder][FOR] == workOf[work][SORT];
        }
    }

    /** Bytes that have come, and how they are read as statements. */
    private static final class Tape {
        // In a form, D is a digit, N a number of one or two digits, K a kind's letter, R "r" or "s".
        private static final String HOLDER_FORM = "pKDD;";
        private static final String PARTS_FORM = "hDN-N;";
        private static final String WORK_FORM = "wDRD,N,N,D;";

        int size;
        private final int[] signs = new int[TAPE];
        private final int[] told = new int[WORK_NUMBERS];

        void put(int n, long bytes) {
            for (int i = 0; i < n && size < TAPE; i++) {
                signs[size] = (int) (bytes >>> 8 * i & 255);
                size++;
            }
        }

        /** 0 if the bytes have the form of statements, else the fault. */
        int formFault() {
            int place = 0;
            for (int i = 0; i < TAPE && (place < size || i == 0); i++) {
                int next = readStatement(place);
                if (next < 0) {
                    return -1000 - (-1 - next);
                }
                place = next;
            }
            return 0;
        }

        /** Tells bytes of the right form to a town: how many statements, or the fault. */
        int tellTo(Town town) {
            int place = 0;
            int statements = 0;
            while (place < size && statements < TAPE) {
                int next = readStatement(place);
                if (next < 0 || !tellOne(town, signs[place])) {
                    return -2000 - place;
                }
                place = next;
                statements++;
            }
            return statements;
        }

        private boolean tellOne(Town town, int letter) {
            if (letter == 'p') {
                return town.addHolder(told);
            }
            if (letter == 'h') {
                return town.addParts(told[0], told[1], told[2]);
            }
            return town.addWork(told);
        }

        /** The place behind a statement, whose numbers are told then; or -1 less the fault's place. */
        private int readStatement(int place) {
            String form = formAt(place);
            int at = place;
            int numbers = 0;
            for (int i = 0; i < form.length(); i++) {
                char want = form.charAt(i);
                int value = valueAt(at, want);
                if (value < 0) {
                    return -1 - at;
                }
                at++;
                if (want == 'N' && valueAt(at, 'D') >= 0) {
                    value = value * 10 + valueAt(at, 'D');
                    at++;
                }
                if (want >= 'A' && want <= 'Z' && numbers < WORK_NUMBERS) {
                    told[numbers] = value;
                    numbers++;
                }
            }
            return at;
        }

        /** The form that a place's letter begins; for an unknown letter one that does not fit it. */
        private String formAt(int place) {
            int letter = signAt(place);
            if (letter == 'h') {
                return PARTS_FORM;
            }
            return letter == 'w' ? WORK_FORM : HOLDER_FORM;
        }

        private int signAt(int place) {
            return place >= 0 && place < size ? signs[place] : -1;
        }

        /** What the sign at a place means where a form wants something; below 0 if it does not fit. */
        private int valueAt(int place, char want) {
            int sign = signAt(place);
            if (sign < 0) {
                return -1;
            }
            switch (want) {
                case 'D':
                case 'N':
                    return sign >= '0' && sign <= '9' ? sign - '0' : -1;
                case 'K':
                    return KIND_LETTERS.indexOf((char) sign);
                case 'R':
                    return sign == 's' ? 1 : sign == 'r' ? 0 : -1;
                default:
                    return sign == want ? 0 : -1;
            }
        }
    }

    /** What parts and hours cost, and the cheapest hours of a work. */
    private static final class Costs {
        private final Town town;
        /** By hours up to BY, of the work that was chosen for last. */
        final int[] ofHour = new int[HOURS];
        private final int[] cheapest = new int[DAYS];
        int bits;
        int sum;

        Costs(Town town) {
            this.town = town;
        }

        int partCost(int work, int holder, int hour) {
            if (town.isFree(work, holder, hour)) {
                return 0;
            }
            if (isIn(town.strike, holder) || !town.kindLets(work, holder)) {
                return NONE;
            }
            int[] task = town.workOf[work];
            int price = town.holderOf[holder][PRICE];
            int length = Math.max(1, task[LENGTH]);
            int hourOfDay = hour % DAY_HOURS;
            switch (town.holderOf[holder][KIND]) {
                case YEARLY:
                    return (2 * price + length - 1) / length;
                case SWAP:
                    return (town.hoursOf[task[DOER]] >> hour - hourOfDay & ONE_DAY) != 0 ? 0 : 2 * price;
                case JOINT:
                    return price * town.parts[hour];
                case BY_DAY:
                    return hourOfDay == DAY_HOURS - 1 ? 0 : price;
                default:
                    return price;
            }
        }

        /** Of all parts of an hour together; NONE if one gives no leave. */
        int hourCost(int work, int hour) {
            int all = 0;
            for (int i = 0; i < town.parts[hour]; i++) {
                int part = partCost(work, town.partOf[hour][i], hour);
                if (part == NONE) {
                    return NONE;
                }
                all += part;
            }
            return all;
        }

        /** Finds ONE of a work: its bits and their sum; 0 and NONE if there is none. */
        void choose(int work) {
            int[] task = town.workOf[work];
            for (int hour = 0; hour <= task[BY]; hour++) {
                ofHour[hour] = hourCost(work, hour);
            }
            bits = 0;
            sum = NONE;
            if (task[SPREAD] == 1) {
                chooseDays(task[LENGTH], task[BY]);
            } else {
                chooseRun(task[LENGTH], task[BY]);
            }
        }

        private void chooseRun(int length, int by) {
            for (int begin = 0; begin + length - 1 <= by; begin++) {
                int run = runCost(begin, length);
                if (run != NONE && (sum == NONE || run < sum)) {
                    sum = run;
                    bits = runBits(begin, length);
                }
            }
        }

        int runCost(int begin, int length) {
            int run = 0;
            for (int hour = begin; hour < begin + length && hour < HOURS; hour++) {
                if (ofHour[hour] == NONE) {
                    return NONE;
                }
                run += ofHour[hour];
            }
            return run;
        }

        /** Days with least costs first, the earlier of equal ones: so the bits are least, too. */
        private void chooseDays(int length, int by) {
            for (int day = 0; day < DAYS; day++) {
                cheapest[day] = cheapestOf(day, by);
            }
            int all = 0;
            int chosen = 0;
            for (int i = 0; i < length; i++) {
                int day = cheapestDay();
                if (day == NONE) {
                    return;
                }
                all += ofHour[cheapest[day]];
                chosen |= 1 << cheapest[day];
                cheapest[day] = NONE;
            }
            sum = all;
            bits = chosen;
        }

        private int cheapestOf(int day, int by) {
            int best = NONE;
            int first = day * DAY_HOURS;
            for (int hour = first; hour < first + DAY_HOURS && hour <= by; hour++) {
                if (ofHour[hour] != NONE && (best == NONE || ofHour[hour] < ofHour[best])) {
                    best = hour;
                }
            }
            return best;
        }

        private int cheapestDay() {
            int best = NONE;
            for (int day = 0; day < DAYS; day++) {
                int hour = cheapest[day];
                if (hour != NONE && (best == NONE || ofHour[hour] < ofHour[cheapest[best]])) {
                    best = day;
                }
            }
            return best;
        }

        static int runBits(int begin, int length) {
            return (1 << length) - 1 << begin;
        }
    }

    /** What holders earn, and the prices that they would ask for it. */
    private static final class Market {
        private static final int MOST_ROUNDS = 10;

        private final Town town;
        private final Costs costs;
        private final int[] pricesAhead = new int[MOST_HOLDERS];

        Market(Town town, Costs costs) {
            this.town = town;
            this.costs = costs;
        }

        int earned(int holder) {
            int income = 0;
            for (int work = 0; work < town.works; work++) {
                // Its own works bring it nothing, and choosing is dear.
                if (town.workOf[work][DOER] == holder) {
                    continue;
                }
                costs.choose(work);
                if (netOf(town.workOf[work][WORTH], costs.sum) != NONE) {
                    income += shareOf(holder, work, costs.bits & town.hoursOf[holder]);
                }
            }
            return income;
        }

        private int shareOf(int holder, int work, int bits) {
            int share = 0;
            for (int hour = 0; hour < HOURS; hour++) {
                if (isIn(bits, hour)) {
                    share += costs.partCost(work, holder, hour);
                }
            }
            return share;
        }

        int bestPrice(int holder) {
            // Without an hour every price earns the same: the least is asked.
            if (town.hoursOf[holder] == 0) {
                return 0;
            }
            int[] numbers = town.holderOf[holder];
            int was = numbers[PRICE];
            int best = 0;
            int most = -1;
            for (int price = 0; price <= GREATEST_DIGIT; price++) {
                numbers[PRICE] = price;
                int income = earned(holder);
                if (income > most) {
                    most = income;
                    best = price;
                }
            }
            numbers[PRICE] = was;
            return best;
        }

        int roundsToRest() {
            for (int holder = 0; holder < town.holders; holder++) {
                pricesAhead[holder] = town.holderOf[holder][PRICE];
            }
            int rounds = NONE;
            for (int round = 1; round <= MOST_ROUNDS && rounds == NONE; round++) {
                boolean changed = false;
                for (int holder = 0; holder < town.holders; holder++) {
                    int asked = bestPrice(holder);
                    changed = changed || asked != town.holderOf[holder][PRICE];
                    town.holderOf[holder][PRICE] = asked;
                }
                if (!changed) {
                    rounds = round;
                }
            }
            for (int holder = 0; holder < town.holders; holder++) {
                town.holderOf[holder][PRICE] = pricesAhead[holder];
            }
            return rounds;
        }
    }

    /** The works in a row that together have most worth. */
    private static final class Plan {
        private final Town town;
        private final Costs costs;
        private int rows;
        private final int[] workOfRow = new int[MOST_ROWS];
        private final int[][] gain = new int[MOST_ROWS][HOURS];
        private final int[] tried = new int[MOST_ROWS];
        private final int[] best = new int[MOST_ROWS];
        int most;

        Plan(Town town, Costs costs) {
            this.town = town;
            this.costs = costs;
        }

        void make() {
            rows = 0;
            for (int work = 0; work < town.works && rows < MOST_ROWS; work++) {
                if (town.workOf[work][SPREAD] == 0) {
                    workOfRow[rows] = work;
                    fillGains(work, gain[rows]);
                    rows++;
                }
            }
            most = -1;
            tryRow(0, 0, 0);
        }

        private void fillGains(int work, int[] gains) {
            int[] task = town.workOf[work];
            costs.choose(work);
            for (int hour = 0; hour < HOURS; hour++) {
                gains[hour] = 0;
                if (hour + task[LENGTH] - 1 <= task[BY]) {
                    int run = costs.runCost(hour, task[LENGTH]);
                    gains[hour] = run == NONE ? 0 : task[WORTH] - run;
                }
            }
        }

        /** Tries all ways in the order that is told, so that the first of the best is kept. */
        private void tryRow(int row, int used, int sum) {
            if (row >= rows) {
                if (sum > most) {
                    most = sum;
                    System.arraycopy(tried, 0, best, 0, MOST_ROWS);
                }
                return;
            }
            tried[row] = NONE;
            tryRow(row + 1, used, sum);
            int length = town.workOf[workOfRow[row]][LENGTH];
            for (int hour = 0; hour < HOURS; hour++) {
                int bits = Costs.runBits(hour, length);
                // A row that gains nothing is never of the first best way: not done is ahead of it.
                if (gain[row][hour] > 0 && (used & bits) == 0) {
                    tried[row] = hour;
                    tryRow(row + 1, used | bits, sum + gain[row][hour]);
                }
            }
        }

        int beginOf(int work) {
            for (int row = 0; row < rows; row++) {
                if (workOfRow[row] == work) {
                    return best[row];
                }
            }
            return NONE;
        }
    }

    /** Who must be asked for a work, who bars it, and who can stop it. */
    private static final class Strikes {
        static final int ORDERED = 5;
        private static final int[] FACTORIALS = {1, 1, 2, 6, 24, 120};

        private final Town town;
        /** By works and hours: bits of holders without whose leave the hour can not be had. */
        private final int[][] asked = new int[MOST_WORKS][HOURS];
        /** By works and hours: bits of those asked whose kind knows no such leave. */
        private final int[][] never = new int[MOST_WORKS][HOURS];

        Strikes(Town town) {
            this.town = town;
        }

        private void look(int work) {
            for (int hour = 0; hour < HOURS; hour++) {
                asked[work][hour] = 0;
                never[work][hour] = 0;
                for (int i = 0; i < town.parts[hour]; i++) {
                    int holder = town.partOf[hour][i];
                    if (!town.isFree(work, holder, hour)) {
                        asked[work][hour] |= 1 << holder;
                        never[work][hour] |= town.kindLets(work, holder) ? 0 : 1 << holder;
                    }
                }
            }
        }

        /** Whether a looked at work has hours if some are on strike and some give leave for all. */
        private boolean canBe(int work, int strike, int giving) {
            int[] task = town.workOf[work];
            int open = 0;
            for (int hour = 0; hour <= task[BY]; hour++) {
                int closing = (never[work][hour] | asked[work][hour] & strike) & ~giving;
                open |= closing == 0 ? 1 << hour : 0;
            }
            return task[SPREAD] == 1
                ? openDays(open) >= task[LENGTH]
                : longestRun(open) >= task[LENGTH];
        }

        private static int openDays(int open) {
            int days = 0;
            for (int day = 0; day < DAYS; day++) {
                days += (open >> day * DAY_HOURS & ONE_DAY) != 0 ? 1 : 0;
            }
            return days;
        }

        private static int longestRun(int open) {
            int longest = 0;
            int run = 0;
            for (int hour = 0; hour < HOURS; hour++) {
                run = isIn(open, hour) ? run + 1 : 0;
                longest = Math.max(longest, run);
            }
            return longest;
        }

        /** Bits of those who bar a work; NONE if it can be. */
        int barring(int work) {
            look(work);
            if (canBe(work, town.strike, 0)) {
                return NONE;
            }
            int found = 0;
            for (int holder = 0; holder < town.holders; holder++) {
                if (canBe(work, town.strike, 1 << holder)) {
                    found |= 1 << holder;
                }
            }
            return found;
        }

        int fewestToStop(int work) {
            look(work);
            int doer = town.workOf[work][DOER];
            int best = NONE;
            int fewest = MOST_HOLDERS + 1;
            for (int set = 0; set <= town.everyone(); set++) {
                int size = Integer.bitCount(set);
                if (size < fewest && !isIn(set, doer) && !canBe(work, town.strike | set, 0)) {
                    fewest = size;
                    best = set;
                }
            }
            return best;
        }

        int fewestToStopEach() {
            for (int work = 0; work < town.works; work++) {
                look(work);
            }
            int best = 0;
            int fewest = MOST_HOLDERS + 1;
            for (int set = 0; set <= town.everyone(); set++) {
                int size = Integer.bitCount(set);
                if (size < fewest && stopsOthers(set)) {
                    fewest = size;
                    best = set;
                }
            }
            return best;
        }

        private boolean stopsOthers(int set) {
            for (int work = 0; work < town.works; work++) {
                boolean theirs = isIn(set, town.workOf[work][DOER]);
                if (!theirs && canBe(work, town.strike | set, 0)) {
                    return false;
                }
            }
            return true;
        }

        int orders() {
            return FACTORIALS[Math.max(0, Math.min(ORDERED, town.holders - 1))];
        }

        /** In how many orders a work becomes possible with a holder: each set ahead of it at once. */
        int pivotalOrders(int holder, int work) {
            look(work);
            int asking = town.everyone() & ~(1 << town.workOf[work][DOER]);
            int others = asking & ~(1 << holder);
            int ways = 0;
            for (int ahead = 0; ahead <= others; ahead++) {
                if ((ahead & ~others) != 0) {
                    continue;
                }
                int behind = others & ~ahead;
                int without = town.strike | behind | 1 << holder;
                if (!canBe(work, without, 0) && canBe(work, town.strike | behind, 0)) {
                    ways += ordersOf(ahead) * ordersOf(behind);
                }
            }
            return ways;
        }

        private static int ordersOf(int set) {
            return FACTORIALS[Math.min(ORDERED, Integer.bitCount(set))];
        }
    }

    /** What would be: weddings, gifts, seasons and years. */
    private static final class Outlook {
        private static final int IMPOSSIBLE = 100;

        private final Town town;
        private final Costs costs;
        private final int[] oneCost = new int[MOST_WORKS];

        Outlook(Town town, Costs costs) {
            this.town = town;
            this.costs = costs;
        }

        int bestSpouse(int holder) {
            int was = town.spouse[holder];
            int least = costOfWorksOf(holder);
            int best = NONE;
            for (int other = 0; other < town.holders; other++) {
                // Its own works ask whom it is wed to alone: the other's side need not be told.
                town.spouse[holder] = other == holder ? was : other;
                int sum = costOfWorksOf(holder);
                if (sum < least) {
                    least = sum;
                    best = other;
                }
            }
            town.spouse[holder] = was;
            return best;
        }

        private int costOfWorksOf(int holder) {
            int sum = 0;
            for (int work = 0; work < town.works; work++) {
                if (town.workOf[work][DOER] == holder) {
                    costs.choose(work);
                    sum += costs.sum == NONE ? IMPOSSIBLE : costs.sum;
                }
            }
            return sum;
        }

        int bestTaker() {
            int given = 0;
            for (int hour = 0; hour < HOURS; hour++) {
                given |= town.parts[hour] == 0 ? 1 << hour : 0;
            }
            int best = NONE;
            int most = -1;
            for (int holder = 0; holder < town.holders; holder++) {
                int sum = netsWithGift(holder, given);
                if (sum > most) {
                    most = sum;
                    best = holder;
                }
            }
            return best;
        }

        private int netsWithGift(int holder, int given) {
            for (int hour = 0; hour < HOURS; hour++) {
                if (isIn(given, hour)) {
                    town.addPart(holder, hour);
                }
            }
            findCosts();
            int sum = 0;
            for (int work = 0; work < town.works; work++) {
                sum += doneNet(work, town.workOf[work][WORTH]);
            }
            for (int hour = 0; hour < HOURS; hour++) {
                if (isIn(given, hour)) {
                    town.takeOnlyPart(holder, hour);
                }
            }
            return sum;
        }

        private void findCosts() {
            for (int work = 0; work < town.works; work++) {
                costs.choose(work);
                oneCost[work] = costs.sum;
            }
        }

        private int doneNet(int work, int worth) {
            return Math.max(0, netOf(worth, oneCost[work]));
        }

        int ofSeasons() {
            findCosts();
            int sum = 0;
            for (int season = 0; season < SEASONS; season++) {
                for (int work = 0; work < town.works; work++) {
                    int worth = town.workOf[work][WORTH] * town.hundredths[season] / 100;
                    sum += doneNet(work, worth);
                }
            }
            return sum;
        }

        int ofDraws(int n, int seed) {
            findCosts();
            int sum = 0;
            int z = seed;
            for (int i = 0; i < n; i++) {
                for (int work = 0; work < town.works; work++) {
                    z = z * 1664525 + 1013904223;
                    int below = Math.max(1, 2 * town.workOf[work][WORTH] + 1);
                    sum += doneNet(work, (z & 0x7fffffff) / 256 % below);
                }
            }
            return sum;
        }
    }

    /** A told week: for each hour the work that is done in it. */
    private static final class Row {
        private static final int IDLE = 9;

        private final Town town;
        private final Costs costs;
        private final int[] bytes = new int[HOURS];
        int size;

        Row(Town town, Costs costs) {
            this.town = town;
            this.costs = costs;
        }

        void put(int v) {
            if (size < HOURS) {
                bytes[size] = v;
                size++;
            }
        }

        int firstWrongHour() {
            for (int hour = 0; hour < size; hour++) {
                if (bytes[hour] != IDLE && !mayBeWorked(bytes[hour], hour)) {
                    return hour;
                }
            }
            return NONE;
        }

        private boolean mayBeWorked(int work, int hour) {
            return town.hasWork(work) && hour <= town.workOf[work][BY]
                && costs.hourCost(work, hour) != NONE;
        }

        int firstNotDone() {
            for (int work = 0; work < town.works; work++) {
                if (!isDone(work)) {
                    return work;
                }
            }
            return NONE;
        }

        private boolean isDone(int work) {
            int[] task = town.workOf[work];
            int hours = 0;
            int last = NONE;
            for (int hour = 0; hour < size; hour++) {
                if (bytes[hour] != work) {
                    continue;
                }
                if (last != NONE && !mayFollow(task, last, hour)) {
                    return false;
                }
                last = hour;
                hours++;
            }
            return hours == task[LENGTH];
        }

        private static boolean mayFollow(int[] task, int last, int hour) {
            return task[SPREAD] == 1 ? hour / DAY_HOURS != last / DAY_HOURS : hour == last + 1;
        }
    }
}
