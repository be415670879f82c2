/** Promise by promise: ordinary inputs, the edges that the document names, wrong inputs. */
public final class Promises {
    private final Due due = new Due();

    public static void main(String[] args) {
        Promises p = new Promises();
        p.newObjectAndFeed();
        p.town();
        p.townFaults();
        p.holderHourWork();
        p.priceStrikeBell();
        p.leaves();
        p.freeParts();
        p.oneCostNet();
        p.bars();
        p.allBegin();
        p.askRest();
        p.stops();
        p.power();
        p.weddings();
        p.heirsGiveTogether();
        p.seasonsYears();
        p.rows();
        p.images();
        p.counts();
        p.refusalOrder();
        p.due.end();
    }

    private void newObjectAndFeed() {
        WhoseHourItIs x = new WhoseHourItIs();
        due.is("new count(0)", x.count(0), 0);
        due.is("new count(1)", x.count(1), 0);
        due.is("new count(2)", x.count(2), 28);
        due.is("new count(3)", x.count(3), 0);
        due.is("new hour(27, -1)", x.hour(27, -1), 0);
        due.is("feed(0)", x.feed(0, 0), -4);
        due.is("feed(min)", x.feed(Integer.MIN_VALUE, 0), -4);
        due.is("feed(9)", x.feed(9, 0), -6);
        due.is("feed(max)", x.feed(Integer.MAX_VALUE, 0), -6);
        due.is("count(6) after refusals", x.count(6), 0);
        for (int i = 1; i <= 7; i++) {
            due.is("feed of 8", x.feed(8, -1L), 8 * i);
        }
        due.is("feed to 63", x.feed(7, 0), 63);
        due.is("feed above 64", x.feed(2, 0), -6);
        due.is("feed to 64", x.feed(1, 0), 64);
        due.is("feed above 64", x.feed(1, 0), -6);
        due.is("count(6)", x.count(6), 64);
        WhoseHourItIs low = new WhoseHourItIs();
        low.feed(5, 0x3B30306F70L | 0x7777L << 40);
        due.is("the lowest come first, those above n do not", low.town(), 1);
    }

    private void town() {
        WhoseHourItIs x = new WhoseHourItIs();
        due.is("numbers with 0 ahead", Due.tell(x, "po00;h000-07;w0s6,09,05,0;"), 3);
        due.is("tape has none", x.count(6), 0);
        due.is("BY", x.work(0, 3), 9);
        due.is("WORTH", x.work(0, 4), 5);
        due.is("HOURS", x.holder(0, 3), 8);
        due.is("towns add", Due.tell(x, "py31;h10-0;"), 2);
        due.is("holders", x.count(0), 2);
        due.is("holders of hour 0", x.hour(0, 1), 1);
        due.is("eight holders", Due.tell(x, "po00;po00;po00;po00;po00;po00;"), 6);
        due.is("a ninth", Due.tell(x, "po00;"), -2000);
        due.is("six works", Due.tell(x, "w0r1,0,0,0;w0r1,0,0,0;w0r1,0,0,0;w0r1,0,0,0;w0r1,0,0,0;"), 5);
        due.is("a seventh", Due.tell(x, "w0r1,0,0,0;"), -2000);
        due.is("all 64 bytes", Due.tell(Due.of("po00;"),
            "h00-0;h01-1;h02-2;h03-3;h04-4;h05-5;h06-6;h07-7;h08-08;h09-9;"), 10);
        WhoseHourItIs y = Due.of("po00;po00;po00;");
        due.is("three holders of an hour", Due.tell(y, "h05-5;h15-5;h25-5;"), 3);
        due.is("as they came", y.hour(5, 2), 2);
    }

    private void fault(String text, int want) {
        WhoseHourItIs x = Due.of("po10;h012-12;");
        due.is("fault of " + text, Due.tell(x, text), want);
        due.is("nothing came of " + text + ": holders", x.count(0), 1);
        due.is("nothing came of " + text + ": parts", x.count(3), 1);
        due.is("nothing came of " + text + ": works", x.count(1), 0);
        due.is("tape after " + text, x.count(6), 0);
        for (int what = 11; what <= 16; what++) {
            due.is("nothing counted of " + text, x.count(what), 0);
        }
    }

    private void townFaults() {
        fault("", -1000);
        fault(";", -1000);
        fault(" po00;", -1000);
        fault("p", -1001);
        fault("pp00;", -1001);
        fault("po00;;", -1005);
        fault("po00;po", -1007);
        fault("poo0;", -1002);
        fault("po000;", -1004);
        fault("hx", -1001);
        fault("h0-1;", -1002);
        fault("h00;", -1003);
        fault("h000;", -1004);
        fault("h0000-1;", -1004);
        fault("h00-;", -1004);
        fault("h00-123;", -1006);
        fault("h00-1,", -1005);
        fault("w0t1,1,1,1;", -1002);
        fault("w0rx", -1003);
        fault("w0r1;", -1004);
        fault("w0r1,,1,1;", -1005);
        fault("w0r1,111,1,1;", -1007);
        fault("w0r1,1,111,1;", -1009);
        fault("w0r1,1,1,11;", -1010);
        fault("w0r1,1,1,1", -1010);
        fault("w9r9,99,1,1;x", -1012);
        fault("h13-5;po00;", -2000);
        fault("po00;h20-1;", -2005);
        fault("h03-2;", -2000);
        fault("h028-28;", -2000);
        fault("h027-28;", -2000);
        fault("h010-20;", -2000);
        fault("h00-1;h01-1;", -2006);
        fault("po00;po00;po00;h112-12;h212-12;h30-27;", -2031);
        fault("w1r1,1,1,1;", -2000);
        fault("w0r0,1,1,1;", -2000);
        fault("w0s7,1,1,1;", -2000);
        fault("w0s1,28,1,1;", -2000);
        fault("po00;po00;po00;po00;po00;po00;po00;po00;", -2035);
        fault("po00;w0r0,1,1,1;w0", -1018);
        fault("po0\u00e9;", -1003);
        fault("po00;\0", -1005);
    }

    private void holderHourWork() {
        WhoseHourItIs x = Due.of("po10;py21;ps32;pj43;pk54;pn65;pt76;h10-3;h22-27;w3s4,20,99,8;w6r6,5,7,0;");
        for (int h = 0; h < 7; h++) {
            due.is("KIND of " + h, x.holder(h, 0), h);
            due.is("PRICE of " + h, x.holder(h, 1), h + 1);
            due.is("FOR of " + h, x.holder(h, 2), h);
        }
        due.is("HOURS of 0", x.holder(0, 3), 0);
        due.is("HOURS of 1", x.holder(1, 3), 4);
        due.is("HOURS of 2", x.holder(2, 3), 26);
        due.is("holder(7, 0)", x.holder(7, 0), -1);
        due.is("holder(-1, 9)", x.holder(-1, 9), -1);
        due.is("holder(0, -1)", x.holder(0, -1), -2);
        due.is("holder(0, 5)", x.holder(0, 5), -2);
        due.is("hour(2, -1)", x.hour(2, -1), 2);
        due.is("hour(2, 0)", x.hour(2, 0), 1);
        due.is("hour(2, 1)", x.hour(2, 1), 2);
        due.is("hour(2, 2)", x.hour(2, 2), -9);
        due.is("hour(2, 3)", x.hour(2, 3), -9);
        due.is("hour(2, max)", x.hour(2, Integer.MAX_VALUE), -9);
        due.is("hour(-1, -2)", x.hour(-1, -2), -1);
        due.is("hour(28, 0)", x.hour(28, 0), -1);
        due.is("hour(0, -2)", x.hour(0, -2), -4);
        int[] first = {3, 1, 4, 20, 99, 8};
        int[] second = {6, 0, 6, 5, 7, 0};
        for (int what = 0; what < 6; what++) {
            due.is("work(0, " + what + ")", x.work(0, what), first[what]);
            due.is("work(1, " + what + ")", x.work(1, what), second[what]);
        }
        due.is("work(2, 9)", x.work(2, 9), -1);
        due.is("work(-1, 0)", x.work(-1, 0), -1);
        due.is("work(0, 6)", x.work(0, 6), -2);
        due.is("work(0, -1)", x.work(0, -1), -2);
        // Hour 0 costs the work of 2 three, hours 1 and 2 the same: income only if the net is 0 or more.
        WhoseHourItIs y = Due.of("po00;po30;w0r2,3,6,0;w0r1,0,2,0;h10-27;");
        due.is("INCOME at net 0, not below", y.holder(1, 4), 6);
        due.is("INCOME of who does it", y.holder(0, 4), 0);
    }

    private void priceStrikeBell() {
        WhoseHourItIs x = Due.of("po30;po40;h00-27;h10-27;w0r1,27,9,5;");
        due.is("price", x.price(1, 9), 4);
        due.is("price", x.price(1, 0), 9);
        due.is("price is", x.holder(1, 1), 0);
        due.is("price(2, 0)", x.price(2, -1), -1);
        due.is("price(0, -1)", x.price(0, -1), -4);
        due.is("price(0, 10)", x.price(0, 10), -6);
        due.is("strike(4)", x.strike(4), -1);
        due.is("strike(min)", x.strike(Integer.MIN_VALUE), -1);
        due.is("strike(3)", x.strike(3), 0);
        due.is("strike(2)", x.strike(2), 3);
        due.is("strike is", x.count(4), 1);
        due.is("no leave of 1", x.leave(0, 1, 4), -9);
        due.is("bell(-2, -1)", x.bell(-2, -1), -1);
        due.is("bell(28, 0)", x.bell(28, 0), -1);
        due.is("bell(4, -1)", x.bell(4, -1), -4);
        due.is("bell(4, 10)", x.bell(4, 10), -6);
        due.is("bell(4, 5)", x.bell(4, 5), -9);
        due.is("an hour given up needs no leave", x.one(0), 1 << 4);
        due.is("bell(0, 4)", x.bell(0, 4), 4);
        due.is("another sort", x.one(0), 0);
        due.is("bell(-1, 0)", x.bell(-1, 0), 0);
        due.is("bell(27, 5)", x.bell(27, 5), -9);
        due.is("bell at the last hour", x.one(0), 1 << 27);
        due.is("a refused bell changes nothing", x.bell(3, 11), -6);
        due.is("bell is", x.bell(-1, 9), 27);
    }

    private void leaves() {
        // 0 does works of length 1, 2, 3, 4 and sorts 0, 1; 1..7 are of the kinds o, y, s, j, k, n, t.
        WhoseHourItIs x = Due.of("pt00;po70;py70;ps70;pj70;pk71;pn70;pt70;w0r1,27,0,0;w0r2,27,0,1;"
            + "w0r3,27,0,0;w0s4,27,0,1;h00-0;h10-7;h20-3;h212-15;h38-11;h33-3;h44-7;h412-15;h58-11;h54-7;h616-27;h724-27;h416-17;");
        due.is("ONCE", x.leave(0, 1, 0), 7);
        due.is("ONCE", x.leave(3, 1, 7), 7);
        due.is("YEAR by 1", x.leave(0, 2, 0), 14);
        due.is("YEAR by 2", x.leave(1, 2, 0), 7);
        due.is("YEAR by 3, rounded up", x.leave(2, 2, 0), 5);
        due.is("YEAR by 4, rounded up", x.leave(3, 2, 0), 4);
        due.is("SWAP on a day of the doer", x.leave(0, 3, 3), 0);
        due.is("SWAP on another day", x.leave(0, 3, 8), 14);
        due.is("JOINT of three", x.leave(0, 4, 4), 21);
        due.is("JOINT of two", x.leave(0, 4, 12), 14);
        due.is("KIND of the sort", x.leave(1, 5, 8), 7);
        due.is("KIND of another sort", x.leave(0, 5, 8), -9);
        due.is("NIGHT by day", x.leave(0, 6, 18), 7);
        due.is("NIGHT at night", x.leave(0, 6, 19), 0);
        due.is("NEVER", x.leave(0, 7, 24), -9);
        due.is("no part", x.leave(0, 7, 0), 0);
        due.is("its own", x.leave(0, 0, 0), 0);
        due.is("leave(4, 0, 0)", x.leave(4, 0, 0), -1);
        due.is("leave(0, 8, 0)", x.leave(0, 8, 0), -1);
        due.is("leave(0, 0, 28)", x.leave(0, 0, 28), -1);
        due.is("leave(-1, 0, 0)", x.leave(-1, 0, 0), -1);
        due.is("leave(0, -1, 0)", x.leave(0, -1, 0), -1);
        due.is("leave(0, 0, -1)", x.leave(0, 0, -1), -1);
    }

    private void freeParts() {
        WhoseHourItIs x = Due.of("po10;pt00;pk31;w0r1,27,9,0;h10-27;h20-27;");
        due.is("NEVER", x.leave(0, 1, 5), -9);
        x.marry(1, 0);
        due.is("NEVER, but wed", x.leave(0, 1, 5), 0);
        x.strike(2);
        due.is("on strike, but wed", x.leave(0, 1, 5), 0);
        due.is("KIND", x.leave(0, 2, 5), -9);
        x.bell(5, 0);
        due.is("KIND, but a bell's", x.leave(0, 2, 5), 0);
        x.strike(7);
        due.is("on strike, but a bell's", x.leave(0, 2, 5), 0);
        due.is("one who does it, on strike", x.cost(0), 0);
    }

    private void oneCostNet() {
        WhoseHourItIs x = Due.of("po10;po20;po10;w0r2,27,5,0;w0s3,11,4,0;w0r6,4,9,0;h10-27;h24-5;h28-8;");
        due.is("of equal runs the first", x.one(0), 3);
        due.is("its cost", x.cost(0), 4);
        due.is("its net", x.net(0), 1);
        due.is("spread: unlike days", x.one(1), 1 | 1 << 6 | 1 << 9);
        due.is("spread: cost", x.cost(1), 6);
        due.is("net below 0", x.net(1), -9);
        due.is("more hours than BY has", x.one(2), 0);
        due.is("no cost", x.cost(2), -9);
        due.is("no net", x.net(2), -9);
        x.price(1, 0);
        x.strike(0);
        due.is("net 4 with cost 0", x.net(1), 4);
        WhoseHourItIs y = Due.of("po10;pn90;w0s2,27,18,0;w0r3,9,27,0;h10-6;h18-27;");
        due.is("nights, and an hour of nobody", y.one(0), 1 << 3 | 1 << 7);
        due.is("a run with a night", y.one(1), 7 << 1);
        due.is("its cost", y.cost(1), 18);
        due.is("its net", y.net(1), 9);
        due.is("one(2)", y.one(2), -1);
        due.is("cost(-1)", y.cost(-1), -1);
        due.is("net(6)", y.net(6), -1);
        WhoseHourItIs z = Due.of("po10;po10;w0s1,27,0,0;w0r1,0,0,0;h00-0;h11-27;");
        due.is("net 0 is done", z.net(0), 0);
        due.is("BY 0", z.one(1), 1);
        due.is("LENGTH above BY", Due.of("po00;w0r2,0,9,0;").one(0), 0);
    }

    private void bars() {
        WhoseHourItIs x = Due.of("po10;pt00;pt00;pk05;w0r1,2,9,0;h10-1;h21-1;h22-2;h32-2;h30-0;");
        due.is("each hour wants two", x.bars(0), 0);
        WhoseHourItIs y = Due.of("po10;pt00;pt00;pk05;w0r1,3,9,0;h10-1;h21-1;h22-2;h33-3;");
        due.is("one of three would do", y.bars(0), 14);
        due.is("a bar is no change", y.one(0), 0);
        WhoseHourItIs z = Due.of("po10;po10;w0s1,27,9,0;h10-27;w1r1,0,0,0;");
        due.is("it can be", z.bars(0), -3);
        z.strike(2);
        due.is("who is on strike", z.bars(0), 2);
        due.is("count(13)", z.count(13), 1);
        due.is("bars(2)", z.bars(2), -1);
        due.is("never any hours", Due.of("po00;w0r6,0,9,0;").bars(0), 0);
    }

    private void allBegin() {
        WhoseHourItIs x = Due.of("po10;po00;w0r2,3,9,0;w1r2,3,9,0;w0s1,0,9,0;w0r1,3,5,0;");
        due.is("all", x.all(), 18);
        due.is("of equal ways the first", x.begin(0), 0);
        due.is("begin(1)", x.begin(1), 2);
        due.is("begin(3)", x.begin(3), -9);
        due.is("spread", x.begin(2), -9);
        due.is("begin(4)", x.begin(4), -1);
        WhoseHourItIs y = Due.of("po00;po90;h10-27;w0r1,0,9,0;w0r1,0,8,0;");
        due.is("nothing is gained", y.all(), 0);
        due.is("not done is first", y.begin(0), -9);
        y.price(1, 2);
        due.is("one hour for two", y.all(), 7);
        due.is("the first has it", y.begin(0), 0);
        due.is("the other not", y.begin(1), -9);
        WhoseHourItIs eq = Due.of("po00;w0r1,0,9,0;w0r1,0,9,0;");
        due.is("equal ways", eq.all(), 9);
        due.is("not done, then the other", eq.begin(0), -9);
        due.is("the other", eq.begin(1), 0);
        WhoseHourItIs z = Due.of("po00;w0r1,9,1,0;w0r1,9,1,0;w0r1,9,1,0;w0s1,9,1,0;");
        due.is("three in a row", z.all(), 3);
        due.is("the third's", z.begin(2), 2);
        Due.tell(z, "w0r1,9,1,0;");
        due.is("four in a row", z.all(), -6);
        due.is("begin of a row", z.begin(0), -6);
        due.is("begin of a spread one", z.begin(3), -6);
        due.is("begin of none", z.begin(5), -1);
        due.is("no works", new WhoseHourItIs().all(), 0);
        due.is("a closed hour", Due.of("po00;pt00;h10-1;w0r1,2,9,0;").begin(0), 2);
    }

    private void askRest() {
        // Two hours cost twice the price: with worth 9 the greatest price at which it is done is 4.
        WhoseHourItIs x = Due.of("po00;po10;h10-27;w0r2,27,9,0;");
        due.is("ask", x.ask(1), 4);
        due.is("price is as it was", x.holder(1, 1), 1);
        due.is("of who has nothing", x.ask(0), 0);
        due.is("ask(2)", x.ask(2), -1);
        due.is("ask(-1)", x.ask(-1), -1);
        due.is("rest: a change, then none", x.rest(), 2);
        due.is("prices stay", x.holder(1, 1), 1);
        x.price(1, 4);
        due.is("rest at once", x.rest(), 1);
        WhoseHourItIs y = Due.of("po00;po90;h10-27;w0r1,27,99,0;w0r1,27,3,0;");
        due.is("one dear work beats two cheap ones", y.ask(1), 9);
        WhoseHourItIs night = Due.of("po00;pn50;h10-27;w0r1,27,99,0;");
        due.is("nothing at any price", night.ask(1), 0);
        // They underbid one another by 1 in each round down to 0.
        WhoseHourItIs rivals = Due.of("po00;po90;po90;h10-0;h21-1;w0r1,1,9,0;");
        due.is("ask of the first", rivals.ask(1), 9);
        due.is("ask of the other", rivals.ask(2), 8);
        due.is("no rest within 10 rounds", rivals.rest(), -9);
        rivals.price(1, 8);
        rivals.price(2, 8);
        due.is("rest in the tenth round", rivals.rest(), 10);
        due.is("prices stay", rivals.holder(2, 1), 8);
        due.is("no holders", new WhoseHourItIs().rest(), 1);
    }

    private void stops() {
        WhoseHourItIs x = Due.of("po00;po00;po00;po00;w0r1,2,9,0;h10-0;h20-1;h31-2;h12-2;");
        due.is("two of three do, the least as bits", x.stop(0), 6);
        due.is("stop(1)", x.stop(1), -1);
        x.strike(4);
        due.is("besides who is on strike", x.stop(0), 2);
        x.strike(12);
        due.is("it can not be anyhow", x.stop(0), 0);
        x.strike(0);
        due.is("stop all: the doer alone", x.stopAll(), 1);
        due.is("strike is as it was", x.strike(0), 0);
        WhoseHourItIs y = Due.of("po00;po00;w0r1,27,9,0;w1r1,27,9,0;");
        due.is("hours of nobody can not be stopped", y.stop(0), -9);
        due.is("then all doers must be of them", y.stopAll(), 3);
        y.strike(2);
        due.is("one on strike who is not of them still works", y.stopAll(), 3);
        WhoseHourItIs z = Due.of("po00;po00;po00;h10-27;h20-27;w0r1,27,9,0;w2r1,27,9,0;");
        due.is("stop by one", z.stop(0), 2);
        due.is("stop by the one not doing it", z.stop(1), 2);
        due.is("stop all by one", z.stopAll(), 2);
        z.marry(0, 1);
        due.is("a wed one can not stop it", z.stop(0), 4);
        WhoseHourItIs seven = Due.of("po00;po00;po00;po00;po00;po00;po00;po00;w0r1,6,9,0;" + "h10-0;h21-1;h32-2;h43-3;h54-4;h65-5;h76-6;");
        due.is("all seven others", seven.stop(0), 254);
        due.is("nothing to stop", new WhoseHourItIs().stopAll(), 0);
        due.is("nothing to stop", Due.of("po00;po00;").stopAll(), 0);
        due.is("a work that can not be", Due.of("po00;w0r6,0,9,0;").stopAll(), 0);
    }

    private void fraction(WhoseHourItIs x, int holder, int work, int above, int below) {
        due.is("power of " + holder + " above", x.power(holder, work, 0), above);
        due.is("power of " + holder + " below", x.power(holder, work, 1), below);
    }

    private void power() {
        // Hour 0 wants 1 and 2, hour 1 wants 1 and 3: 1 is in 4 of 6 orders the one, 2 and 3 in 1 each.
        WhoseHourItIs x = Due.of("po00;po00;po00;po00;h10-1;h20-0;h31-1;w0r1,1,9,0;");
        fraction(x, 1, 0, 2, 3);
        fraction(x, 2, 0, 1, 6);
        fraction(x, 3, 0, 1, 6);
        x.strike(4);
        fraction(x, 1, 0, 1, 2);
        fraction(x, 2, 0, 0, 1);
        fraction(x, 3, 0, 1, 2);
        due.is("strike is as it was", x.strike(0), 4);
        due.is("who does it", x.power(0, 0, 0), -1);
        due.is("power(4, 0, 0)", x.power(4, 0, 9), -1);
        due.is("power(1, 1, 0)", x.power(1, 1, 9), -1);
        due.is("power(1, 0, 2)", x.power(1, 0, 2), -2);
        due.is("power(1, 0, -1)", x.power(1, 0, -1), -2);
        Due.tell(x, "po00;po00;");
        fraction(x, 1, 0, 2, 3);
        fraction(x, 5, 0, 0, 1);
        Due.tell(x, "po00;");
        due.is("seven holders", x.power(1, 0, 0), -6);
        fraction(Due.of("po00;po00;h10-27;w0r1,27,9,0;"), 1, 0, 1, 1);
        fraction(Due.of("po00;pt00;h10-27;w0r1,27,9,0;"), 1, 0, 0, 1);
    }

    private void weddings() {
        WhoseHourItIs x = Due.of("po00;po50;po90;po10;w0r1,0,9,0;w0r1,1,9,0;h10-0;h20-1;h31-1;");
        due.is("costs 14 and 10: with 2 they are 5 and 1", x.wed(0), 2);
        due.is("one without works", x.wed(1), -9);
        due.is("wed changes nothing", x.wedTo(0), -9);
        due.is("wed(4)", x.wed(4), -1);
        due.is("marry(0, 2)", x.marry(0, 2), 1);
        due.is("less than now is none", x.wed(0), -9);
        due.is("cost", x.cost(0), 5);
        due.is("marry(2, 1)", x.marry(2, 1), 1);
        due.is("0 is not wed any more", x.wedTo(0), -9);
        due.is("2 is wed to 1", x.wedTo(2), 1);
        due.is("1 is wed to 2", x.wedTo(1), 2);
        due.is("marry(0, 3)", x.marry(0, 3), 1);
        due.is("marry(3, 2)", x.marry(3, 2), 1);
        due.is("both sides part: 0", x.wedTo(0), -9);
        due.is("both sides part: 1", x.wedTo(1), -9);
        due.is("marry again", x.marry(2, 3), 1);
        due.is("they stay", x.wedTo(3), 2);
        due.is("marry(0, 0)", x.marry(0, 0), -1);
        due.is("marry(0, 4)", x.marry(0, 4), -1);
        due.is("marry(-1, 0)", x.marry(-1, 0), -1);
        due.is("wedTo(4)", x.wedTo(4), -1);
        WhoseHourItIs y = Due.of("po00;pt00;pj90;pj90;w0s6,27,0,0;h24-27;h34-27;h10-3;");
        // Six days of two joint parts: 6 x 36, with one of them 6 x 18; the first day is barred.
        due.is("joint parts", y.cost(0), 216);
        due.is("of several the least", y.wed(0), 2);
        // Hour 0 is barred by 1, hours 1 to 3 by 3; hours 4 to 9 cost 108 by 2's joint parts.
        WhoseHourItIs z = Due.of("po00;pt00;pj90;pt00;w0r1,0,0,0;w0r6,9,0,0;h10-0;h31-3;h24-9;h04-9;");
        due.is("one that can not be counts 100: less than 108", z.wed(0), 2);
        z.price(2, 8);
        due.is("one that can not be counts 100: more than 96", z.wed(0), 1);
    }

    private void heirsGiveTogether() {
        WhoseHourItIs x = Due.of("po00;po50;po00;h10-5;h24-9;h05-5;w0r2,27,9,0;");
        due.is("heirs of none", x.heirs(20, 0), -9);
        due.is("heirs(0, 0)", x.heirs(0, 0), 0);
        due.is("heirs(0, 1)", x.heirs(0, 1), 1);
        due.is("heirs(0, 9999)", x.heirs(0, 9999), 14);
        due.is("heirs(5, 2)", x.heirs(5, 2), 0);
        due.is("heirs(5, 3)", x.heirs(5, 3), 1);
        due.is("heirs(5, 9999)", x.heirs(5, 9999), 12);
        due.is("heirs(28, -1)", x.heirs(28, -1), -1);
        due.is("heirs(0, -1)", x.heirs(0, -1), -4);
        due.is("heirs(0, 10000)", x.heirs(0, 10000), -6);
        due.is("together(1, 2)", x.together(1, 2), 2);
        due.is("together(0, 1)", x.together(0, 1), 1);
        due.is("together(1, 1)", x.together(1, 1), -1);
        due.is("together(0, 3)", x.together(0, 3), -1);
        due.is("together(-1, 0)", x.together(-1, 0), -1);
        due.is("give: all are as good", x.give(), 0);
        due.is("nothing was given", x.count(2), 18);
        WhoseHourItIs y = Due.of("pt00;po30;w1r1,27,9,0;w1r1,27,2,0;");
        due.is("give to who works", y.give(), 1);
        due.is("nothing was given", y.holder(1, 3), 0);
        WhoseHourItIs z = Due.of("po20;po30;po10;w0r1,27,9,0;w1r1,27,9,0;w2r1,27,9,0;");
        due.is("the cheapest to the others", z.give(), 2);
        due.is("without holders", new WhoseHourItIs().give(), -9);
    }

    private void seasonsYears() {
        WhoseHourItIs x = Due.of("po00;po30;h10-27;w0r1,27,7,0;w0r1,27,0,0;");
        due.is("year", x.year(), 16);
        due.is("season(0, 50)", x.season(0, 50), 100);
        due.is("worth 3.5 is cut to 3", x.year(), 12);
        due.is("season(1, 300)", x.season(1, 300), 100);
        due.is("season(2, 0)", x.season(2, 0), 100);
        due.is("21 less 3, and nothing below 0", x.year(), 18 + 4);
        due.is("net knows no season", x.net(0), 4);
        due.is("season(-1, -1)", x.season(-1, -1), -1);
        due.is("season(4, 0)", x.season(4, 0), -1);
        due.is("season(3, -1)", x.season(3, -1), -4);
        due.is("season(3, 301)", x.season(3, 301), -6);
        due.is("season is", x.season(1, 1), 300);
        due.is("years(0, 0)", x.years(0, 0), -4);
        due.is("years(11, 0)", x.years(11, 0), -6);
        // From 0: 1013904223 by 256 is 3960563, modulo 15 is 8, less 3 is 5.
        due.is("a year of a draw", x.years(1, 0), 5);
        due.is("no works", new WhoseHourItIs().years(10, 5), 0);
        due.is("years(10, max) without end", x.years(10, Integer.MAX_VALUE) >= 0 ? 1 : 0, 1);
    }

    private void judged(WhoseHourItIs x, String row, int wrongHour, int notDone) {
        for (int what = 0; what < 2; what++) {
            for (int i = 0; i < row.length(); i++) {
                due.is("row", x.row(row.charAt(i) - '0'), i + 1);
            }
            due.is("judge(" + what + ") of " + row, x.judge(what), what == 0 ? wrongHour : notDone);
            due.is("the row has none then", x.count(5), 0);
        }
    }

    private void rows() {
        WhoseHourItIs x = Due.of("po00;pt00;w0r2,6,9,0;w0s2,27,9,0;h15-5;");
        judged(x, "", -9, 0);
        judged(x, "1001", -9, 1);
        judged(x, "10091", -9, -9);
        judged(x, "10901", -9, 0);
        judged(x, "100901", 5, 0);
        judged(x, "100991", 5, -9);
        judged(x, "9900999911", -9, 1);
        judged(x, "0900", -9, 0);
        judged(x, "10", -9, 0);
        judged(x, "100", -9, 1);
        judged(x, "1999999001", 7, -9);
        judged(x, "1999990099991", 7, -9);
        judged(x, "1990099991", -9, -9);
        judged(x, "1999999990099", 9, 1);
        judged(x, "9200", 1, 1);
        judged(x, "6", 0, 0);
        judged(x, "9999999999999999999900999991", 20, 1);
        due.is("row(-1)", x.row(-1), -4);
        due.is("row(10)", x.row(10), -6);
        for (int i = 1; i <= 28; i++) {
            due.is("row(9)", x.row(9), i);
        }
        due.is("no room", x.row(9), -6);
        due.is("below first", x.row(-1), -4);
        due.is("judge(2)", x.judge(2), -2);
        due.is("judge(-1)", x.judge(-1), -2);
        due.is("it stays", x.count(5), 28);
        due.is("judge(0)", x.judge(0), -9);
        x.strike(2);
        x.bell(5, 0);
        judged(x, "9999911", -9, 0);
        x.bell(-1, 0);
        judged(x, "9999911", 5, 0);
    }

    private void images() {
        WhoseHourItIs x = Due.of("po30;po40;po50;h10-3;w0r1,3,9,1;");
        due.is("on without image", x.on(), -3);
        x.strike(4);
        x.bell(7, 1);
        x.season(2, 7);
        x.marry(0, 2);
        due.is("image", x.image(), 3);
        Due.tell(x, "po00;h24-27;w3s6,27,99,9;");
        x.price(1, 9);
        x.strike(3);
        x.bell(-1, 0);
        x.season(2, 8);
        x.marry(0, 3);
        x.row(9);
        x.feed(1, 'p');
        for (int again = 0; again < 2; again++) {
            due.is("on", x.on(), 3);
            due.is("holders", x.count(0), 3);
            due.is("works", x.count(1), 1);
            due.is("parts", x.count(3), 4);
            due.is("hours of 2", x.holder(2, 3), 0);
            due.is("price", x.price(1, 8), 4);
            due.is("strike", x.strike(0), 4);
            due.is("bell", x.bell(2, 2), 7);
            due.is("season", x.season(2, 9), 7);
            due.is("wed", x.wedTo(0), 2);
            due.is("wed", x.wedTo(2), 0);
            due.is("the row is not of the image", x.count(5), 1);
            due.is("the tape is not of the image", x.count(6), 1);
            due.is("refusals are not of the image", x.count(13), 1);
            Due.tell(x, "po00;");
            due.is("a holder who comes where one was is not wed", x.wedTo(2), 0);
            x.feed(1, 'p');
        }
        WhoseHourItIs bells = Due.of("po00;po50;h10-27;w0r1,27,9,1;");
        bells.bell(7, 1);
        Due.tell(bells, "po00;");
        due.is("a town leaves the bell as it is", bells.leave(0, 1, 7), 0);
        bells.image();
        bells.bell(7, 2);
        due.is("another sort", bells.leave(0, 1, 7), 5);
        bells.on();
        due.is("the bell's sort is of the image", bells.leave(0, 1, 7), 0);
        WhoseHourItIs plans = Due.of("po00;");
        plans.image();
        Due.tell(plans, "w0r1,27,9,1;w0r1,27,9,1;");
        due.is("a plan", plans.all(), 18);
        plans.on();
        Due.tell(plans, "w0r1,0,9,1;w0r1,0,9,1;");
        due.is("a plan knows nothing of one ahead of it", plans.all(), 9);
    }

    private void counts() {
        WhoseHourItIs x = Due.of("po00;po00;h00-3;h12-9;w0r1,1,1,1;");
        x.strike(3);
        x.row(9);
        x.row(1);
        x.feed(3, 0);
        int[] want = {2, 1, 18, 12, 2, 2, 3};
        for (int what = 0; what < 7; what++) {
            due.is("count(" + what + ")", x.count(what), want[what]);
        }
        x.one(7);
        x.one(-7);
        x.judge(5);
        x.on();
        x.row(-1);
        x.row(-2);
        x.row(-3);
        x.row(99);
        int[] refused = {2, 1, 1, 3, 0, 1};
        for (int what = 11; what <= 16; what++) {
            due.is("count(" + what + ")", x.count(what), refused[what - 11]);
        }
        int[] other = {-1, 7, 8, 9, 10, 17, Integer.MAX_VALUE, Integer.MIN_VALUE};
        for (int what : other) {
            due.is("count(" + what + ")", x.count(what), -9);
        }
        due.is("count counts nothing", x.count(12), 1);
    }

    private void refusalOrder() {
        WhoseHourItIs x = Due.of("po00;po00;po00;po00;po00;po00;po00;w0r1,1,1,1;");
        due.is("holder: -1 ahead of -2", x.holder(9, 9), -1);
        due.is("work: -1 ahead of -2", x.work(9, 9), -1);
        due.is("hour: -1 ahead of -4", x.hour(99, -9), -1);
        due.is("price: -1 ahead of -6", x.price(9, 99), -1);
        due.is("bell: -1 ahead of -6", x.bell(99, 99), -1);
        due.is("heirs: -1 ahead of -6", x.heirs(99, 99999), -1);
        due.is("season: -1 ahead of -6", x.season(9, 999), -1);
        due.is("power: -1 ahead of -2", x.power(0, 0, 5), -1);
        due.is("power: -2 ahead of -6", x.power(1, 0, 5), -2);
        due.is("power: -6", x.power(1, 0, 1), -6);
        due.is("count(11)", x.count(11), 8);
        due.is("count(12)", x.count(12), 1);
        due.is("count(16)", x.count(16), 1);
    }
}
