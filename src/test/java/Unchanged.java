import java.util.List;
import java.util.function.Supplier;
import java.util.function.ToIntFunction;

/** A refusal answers its number and changes nothing but how many there were; asking changes nothing. */
public final class Unchanged {
    private static final String REFUSALS = "(the call answers the number, the first that fits in the order in which"
        + " it tells them; nothing changes but how many there were)";

    private final Sentences doc;
    private final String name;
    private final Supplier<WhoseHourItIs> state;
    private final List<Integer> looks;
    private final int holders;
    private final int works;

    private Unchanged(Sentences doc, String name, Supplier<WhoseHourItIs> state) {
        this.doc = doc;
        this.name = name;
        this.state = state;
        this.looks = Looks.at(state);
        this.holders = state.get().count(0);
        this.works = state.get().count(1);
    }

    public static void main(String[] args) {
        Sentences doc = new Sentences();
        new Unchanged(doc, "a new object", WhoseHourItIs::new).look();
        new Unchanged(doc, "some of all", Unchanged::some).look();
        new Unchanged(doc, "all full", Unchanged::full).look();
        doc.end(2, 35);
    }

    private void look() {
        refusedOfTown();
        refusedOfLeaves();
        refusedOfWorks();
        refusedOfWeek();
        refusedByState();
        asked();
        thereAndBack();
        faults();
        imageAndOn();
    }

    /** A HOLDER of each KIND that gives leave, four WORKS, and something of all else. */
    private static WhoseHourItIs some() {
        WhoseHourItIs x = Due.of("po10;py21;ps32;pj43;pk51;pn65;h00-5;h13-9;h25-14;h312-20;h418-24;h522-24;"
            + "w0r2,20,30,1;w1s3,27,40,1;w2r1,27,20,2;w3s6,27,90,3;");
        x.image();
        x.price(3, 7);
        x.strike(2);
        x.bell(7, 1);
        x.season(1, 150);
        x.season(3, 20);
        x.marry(0, 4);
        for (int v : new int[] {9, 0, 0, 9, 1, 9, 9, 3}) {
            x.row(v);
        }
        Due.feed(x, "pt98;h64-4;");
        x.one(99);
        x.judge(99);
        return x;
    }

    private static WhoseHourItIs full() {
        WhoseHourItIs x = Due.of("po11;py21;ps31;pj41;pk51;pn61;pt71;po81;h00-27;h10-27;h20-9;h310-19;h420-27;"
            + "w0r6,27,99,9;w1r1,26,98,1;w2r2,25,97,2;w3r3,24,96,3;w4s5,23,95,4;w5s6,27,94,5;");
        x.image();
        x.strike(255);
        x.bell(27, 9);
        for (int season = 0; season < 4; season++) {
            x.season(season, 300);
            x.marry(season, 7 - season);
        }
        for (int i = 0; i < 28; i++) {
            x.row(i % 6);
        }
        for (int i = 0; i < 8; i++) {
            x.feed(8, -1);
        }
        return x;
    }

    private void same(String call, ToIntFunction<WhoseHourItIs> change) {
        List<Integer> now = Looks.at(() -> {
            WhoseHourItIs x = state.get();
            change.applyAsInt(x);
            return x;
        });
        doc.is(name + ": " + call + " changes nothing", now.equals(looks) ? 1 : 0, 1);
    }

    private void refused(int number, String call, ToIntFunction<WhoseHourItIs> refusal) {
        WhoseHourItIs x = state.get();
        doc.is(name + ": " + call, refusal.applyAsInt(x), number);
        counts(call, x, number);
        same(call, refusal);
    }

    private void counts(String call, WhoseHourItIs x, int number) {
        WhoseHourItIs twin = state.get();
        for (int what = 11; what <= 16; what++) {
            int more = what == 10 - number ? 1 : 0;
            doc.is(name + ": count(" + what + ") behind " + call, x.count(what), twin.count(what) + more);
        }
    }

    private void refusedOfTown() {
        doc.says(2, REFUSALS);
        refused(-4, "feed(0, 0)", x -> x.feed(0, 0));
        refused(-4, "feed(-1, -1)", x -> x.feed(-1, -1));
        refused(-6, "feed(9, 0)", x -> x.feed(9, 0));
        doc.says(4, REFUSALS);
        refused(-1, "holder(-1, 0)", x -> x.holder(-1, 0));
        refused(-1, "holder of none", x -> x.holder(holders, 0));
        refused(-1, "holder of none, another what", x -> x.holder(holders, 5));
        doc.says(5, REFUSALS);
        refused(-1, "hour(-1, 0)", x -> x.hour(-1, 0));
        refused(-1, "hour(28, 0)", x -> x.hour(28, 0));
        refused(-1, "hour(28, -2)", x -> x.hour(28, -2));
        refused(-4, "hour(27, -2)", x -> x.hour(27, -2));
        doc.says(6, REFUSALS);
        refused(-1, "work(-1, 0)", x -> x.work(-1, 0));
        refused(-1, "work of none", x -> x.work(works, 0));
        refused(-1, "work of none, another what", x -> x.work(works, 6));
        if (works > 0) {
            doc.says(4, REFUSALS);
            refused(-2, "holder(0, -1)", x -> x.holder(0, -1));
            refused(-2, "holder(0, 5)", x -> x.holder(0, 5));
            doc.says(6, REFUSALS);
            refused(-2, "work(0, -1)", x -> x.work(0, -1));
            refused(-2, "work(0, 6)", x -> x.work(0, 6));
        }
    }

    private void refusedOfLeaves() {
        doc.says(7, REFUSALS);
        refused(-1, "price(-1, 0)", x -> x.price(-1, 0));
        refused(-1, "price of none", x -> x.price(holders, 0));
        refused(-1, "price of none, below", x -> x.price(holders, -1));
        refused(-1, "price of none, above", x -> x.price(holders, 10));
        doc.says(8, REFUSALS);
        refused(-1, "strike of none", x -> x.strike(1 << holders));
        refused(-1, "strike of all and none", x -> x.strike((2 << holders) - 1));
        refused(-1, "strike(-1)", x -> x.strike(-1));
        doc.says(9, REFUSALS);
        refused(-1, "bell(-2, 0)", x -> x.bell(-2, 0));
        refused(-1, "bell(28, 0)", x -> x.bell(28, 0));
        refused(-1, "bell(28, -1)", x -> x.bell(28, -1));
        refused(-1, "bell(28, 10)", x -> x.bell(28, 10));
        refused(-4, "bell(0, -1)", x -> x.bell(0, -1));
        refused(-6, "bell(0, 10)", x -> x.bell(0, 10));
        doc.says(10, REFUSALS);
        refused(-1, "leave of no WORK", x -> x.leave(works, 0, 0));
        refused(-1, "leave(-1, 0, 0)", x -> x.leave(-1, 0, 0));
        refused(-1, "leave of no HOLDER", x -> x.leave(0, holders, 0));
        refused(-1, "leave(0, -1, 0)", x -> x.leave(0, -1, 0));
        refused(-1, "leave(0, 0, 28)", x -> x.leave(0, 0, 28));
        refused(-1, "leave(0, 0, -1)", x -> x.leave(0, 0, -1));
        if (holders > 0) {
            doc.says(7, REFUSALS);
            refused(-4, "price(0, -1)", x -> x.price(0, -1));
            refused(-6, "price(0, 10)", x -> x.price(0, 10));
        }
    }

    private void refusedOfWorks() {
        for (int wrong : new int[] {-1, works}) {
            doc.says(11, REFUSALS);
            refused(-1, "one(" + wrong + ")", x -> x.one(wrong));
            doc.says(12, REFUSALS);
            refused(-1, "cost(" + wrong + ")", x -> x.cost(wrong));
            doc.says(13, REFUSALS);
            refused(-1, "net(" + wrong + ")", x -> x.net(wrong));
            doc.says(14, REFUSALS);
            refused(-1, "bars(" + wrong + ")", x -> x.bars(wrong));
            doc.says(16, REFUSALS);
            refused(-1, "begin(" + wrong + ")", x -> x.begin(wrong));
            doc.says(19, REFUSALS);
            refused(-1, "stop(" + wrong + ")", x -> x.stop(wrong));
            doc.says(21, REFUSALS);
            refused(-1, "power(1, " + wrong + ", 0)", x -> x.power(1, wrong, 0));
            refused(-1, "power(1, " + wrong + ", 2)", x -> x.power(1, wrong, 2));
        }
        for (int wrong : new int[] {-1, holders}) {
            doc.says(17, REFUSALS);
            refused(-1, "ask(" + wrong + ")", x -> x.ask(wrong));
            doc.says(21, REFUSALS);
            refused(-1, "power(" + wrong + ", 0, 0)", x -> x.power(wrong, 0, 0));
            doc.says(22, REFUSALS);
            refused(-1, "wed(" + wrong + ")", x -> x.wed(wrong));
            doc.says(23, REFUSALS);
            refused(-1, "marry(0, " + wrong + ")", x -> x.marry(0, wrong));
            refused(-1, "marry(" + wrong + ", 0)", x -> x.marry(wrong, 0));
            refused(-1, "marry(0, 0)", x -> x.marry(0, 0));
            doc.says(24, REFUSALS);
            refused(-1, "wedTo(" + wrong + ")", x -> x.wedTo(wrong));
            doc.says(27, REFUSALS);
            refused(-1, "together(0, " + wrong + ")", x -> x.together(0, wrong));
            refused(-1, "together(" + wrong + ", 0)", x -> x.together(wrong, 0));
            refused(-1, "together(0, 0)", x -> x.together(0, 0));
        }
    }

    private void refusedOfWeek() {
        doc.says(25, REFUSALS);
        refused(-1, "heirs(-1, 0)", x -> x.heirs(-1, 0));
        refused(-1, "heirs(28, 0)", x -> x.heirs(28, 0));
        refused(-1, "heirs(28, -1)", x -> x.heirs(28, -1));
        refused(-1, "heirs(28, 10000)", x -> x.heirs(28, 10000));
        refused(-4, "heirs(0, -1)", x -> x.heirs(0, -1));
        refused(-6, "heirs(0, 10000)", x -> x.heirs(0, 10000));
        doc.says(28, REFUSALS);
        refused(-1, "season(-1, 0)", x -> x.season(-1, 0));
        refused(-1, "season(4, 0)", x -> x.season(4, 0));
        refused(-1, "season(4, -1)", x -> x.season(4, -1));
        refused(-1, "season(4, 301)", x -> x.season(4, 301));
        refused(-4, "season(0, -1)", x -> x.season(0, -1));
        refused(-6, "season(0, 301)", x -> x.season(0, 301));
        doc.says(30, REFUSALS);
        refused(-4, "years(0, 0)", x -> x.years(0, 0));
        refused(-6, "years(11, 0)", x -> x.years(11, 0));
        doc.says(31, REFUSALS);
        refused(-4, "row(-1)", x -> x.row(-1));
        refused(-6, "row(10)", x -> x.row(10));
        doc.says(32, REFUSALS);
        refused(-2, "judge(-1)", x -> x.judge(-1));
        refused(-2, "judge(2)", x -> x.judge(2));
    }

    /** Refusals that want more than a wrong number. */
    private void refusedByState() {
        if (holders == 0) {
            doc.says(34, REFUSALS);
            refused(-3, "on()", x -> x.on());
            return;
        }
        doc.says(21, REFUSALS);
        refused(-1, "power of who does it", x -> x.power(0, 0, 0));
        refused(-1, "power of who does it, another part", x -> x.power(0, 0, 2));
        refused(-2, "power(1, 0, -1)", x -> x.power(1, 0, -1));
        refused(-2, "power(1, 0, 2)", x -> x.power(1, 0, 2));
        if (holders < 8) {
            doc.says(14, REFUSALS);
            refused(-3, "bars of a WORK that can be", x -> x.bars(0));
            return;
        }
        doc.says(2, REFUSALS);
        refused(-6, "feed above 64", x -> x.feed(1, 'p'));
        refused(-4, "feed of none, though it is full", x -> x.feed(0, 0));
        doc.says(15, REFUSALS);
        refused(-6, "all()", x -> x.all());
        doc.says(16, REFUSALS);
        refused(-6, "begin(0)", x -> x.begin(0));
        refused(-6, "begin of a spread one", x -> x.begin(4));
        doc.says(21, REFUSALS);
        refused(-6, "power(1, 0, 0)", x -> x.power(1, 0, 0));
        doc.says(31, REFUSALS);
        refused(-6, "row behind 28", x -> x.row(0));
        refused(-4, "row of -1 behind 28", x -> x.row(-1));
    }

    private void asks(String call, ToIntFunction<WhoseHourItIs> asking) {
        WhoseHourItIs x = state.get();
        int once = asking.applyAsInt(x);
        doc.is(name + ": " + call + " again", asking.applyAsInt(x), once);
        same(call, asking);
    }

    private void asked() {
        doc.says(18, "in mind: PRICES stay as they were");
        asks("rest()", x -> x.rest());
        doc.says(15, "the greatest sum of WORTHS less COSTS of those done");
        asks("all()", x -> x.all());
        doc.says(20, "on STRIKE besides those who are on it now");
        asks("stopAll()", x -> x.stopAll());
        doc.says(26, "to whom all HOURS of NOBODY should go");
        asks("give()", x -> x.give());
        doc.says(29, "WORTHS so");
        asks("year()", x -> x.year());
        doc.says(30, "z becomes z times 1664525 and 1013904223 (an int)");
        asks("years(10, 5)", x -> x.years(10, 5));
        doc.says(35, "-9 for another what.");
        asks("count(99)", x -> x.count(99));
        for (int i = 0; i < works; i++) {
            int work = i;
            doc.says(14, "if it alone gave leave for all its parts");
            asks("bars", x -> x.bars(work));
            doc.says(16, "BEGIN of each by that");
            asks("begin", x -> x.begin(work));
            doc.says(19, "on STRIKE besides those who are on it now");
            asks("stop", x -> x.stop(work));
            doc.says(21, "those behind being on STRIKE");
            asks("power", x -> x.power(holders - 1, work, 0));
        }
        for (int i = 0; i < holders; i++) {
            int holder = i;
            doc.says(17, "the PRICE 0 .. 9 with which its INCOME is greatest (others' as they are)");
            asks("ask", x -> x.ask(holder));
            doc.says(22, "WED to it (all parts of each free to the other)");
            asks("wed", x -> x.wed(holder));
        }
    }

    private void thereAndBack() {
        doc.says(8, "STRIKE: who was on it.");
        same("a strike taken back", x -> x.strike(x.strike(0)));
        doc.says(28, "Hundredths of a SEASON: what they were.");
        for (int i = 0; i < 4; i++) {
            int season = i;
            same("a season taken back", x -> x.season(season, x.season(season, 7)));
        }
        for (int i = 0; i < holders; i++) {
            int holder = i;
            doc.says(7, "PRICE: what it was.");
            same("a price taken back", x -> x.price(holder, x.price(holder, 9 - holder)));
            if (state.get().wedTo(holder) >= 0) {
                doc.says(23, "Two are WED from now on (those that they were WED to are not any more)");
                same("the same two wed again", x -> x.marry(x.wedTo(holder), holder));
            }
        }
    }

    private void faults() {
        doc.says(3, "Without FAULT all of it comes, with one nothing.");
        List<Integer> without = Looks.at(this::withoutTape);
        String[] texts = {"", ";", "p", "po00;x", "po00;po0", "h80-0;", "h00-28;", "h05-4;", "h09-9;h09-9;", "w8r1,1,1,1;",
            "w0r0,1,1,1;", "w0s7,1,1,1;", "w0r1,28,1,1;", "po00;po00;po00;po00;po00;po00;po00;po00;po00;"};
        for (String text : texts) {
            doc.is(name + ": \"" + text + "\"", Due.tell(withoutTape(), text) <= -1000 ? 1 : 0, 1);
            List<Integer> with = Looks.at(() -> {
                WhoseHourItIs x = withoutTape();
                Due.tell(x, text);
                return x;
            });
            doc.is(name + ": \"" + text + "\" changes nothing", with.equals(without) ? 1 : 0, 1);
        }
    }

    private WhoseHourItIs withoutTape() {
        WhoseHourItIs x = state.get();
        Due.tell(x, "\n");
        return x;
    }

    private void imageAndOn() {
        doc.says(33, "THE IMAGE: all that is told, PRICES, STRIKE, BELL, SEASONS, WED ones");
        List<Integer> then = Looks.at(() -> imaged(false));
        List<Integer> again = Looks.at(() -> imaged(true));
        doc.is(name + ": on() behind many changes", again.equals(then) ? 1 : 0, 1);
    }

    private WhoseHourItIs imaged(boolean changed) {
        WhoseHourItIs x = withoutTape();
        x.image();
        if (changed) {
            x.strike(0);
            x.bell(13, 4);
            x.season(0, 13);
            x.marry(0, 1);
            x.price(0, 9);
            x.price(1, 8);
            Due.tell(x, "po00;");
            Due.tell(x, "h00-27;");
            Due.tell(x, "h025-27;");
            Due.tell(x, "w0r1,1,1,1;");
            x.on();
        }
        return x;
    }
}
