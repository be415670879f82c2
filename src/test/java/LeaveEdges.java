/** Edges that the document names for promises 7 to 14: prices, strikes, bells, leaves, ONE and who bars. */
public final class LeaveEdges {
    private static final int LEAST = Integer.MIN_VALUE;
    private static final int GREATEST = Integer.MAX_VALUE;
    private static final String EIGHT = "po00;po00;po00;po00;po00;po00;po00;po00;";

    private final Sentences doc = new Sentences();

    public static void main(String[] args) {
        LeaveEdges t = new LeaveEdges();
        t.price();
        t.strike();
        t.onStrike();
        t.bell();
        t.leave();
        t.freeParts();
        t.onceAndYear();
        t.swap();
        t.joint();
        t.kindAndNever();
        t.night();
        t.hoursInARow();
        t.hoursSpread();
        t.leastAsBits();
        t.cost();
        t.net();
        t.whoBars();
        t.doc.end(7, 14);
    }

    private void price() {
        WhoseHourItIs x = Due.of("po30;po40;h10-27;w0r1,27,9,0;");
        doc.says(7, "PRICE: what it was.");
        doc.is("price(0, 0)", x.price(0, 0), 3);
        doc.is("price(0, 9)", x.price(0, 9), 0);
        doc.is("price(0, 9)", x.price(0, 9), 9);
        doc.is("another's stays", x.holder(1, 1), 4);
        x.price(1, 8);
        doc.is("it is asked from now on", x.cost(0), 8);
        doc.says(7, "-1; -4; -6 9.");
        doc.is("price(2, 5)", x.price(2, 5), -1);
        doc.is("price(-1, 5)", x.price(-1, 5), -1);
        doc.is("price(1, -1)", x.price(1, -1), -4);
        doc.is("price(1, least)", x.price(1, LEAST), -4);
        doc.is("price(1, 10)", x.price(1, 10), -6);
        doc.is("price(1, greatest)", x.price(1, GREATEST), -6);
        doc.is("price(2, -1)", x.price(2, -1), -1);
        doc.is("price(2, 10)", x.price(2, 10), -1);
        doc.is("it stays", x.holder(1, 1), 8);
        doc.is("count(11)", x.count(11), 4);
        doc.is("count(14)", x.count(14), 2);
        doc.is("count(16)", x.count(16), 2);
    }

    private void strike() {
        WhoseHourItIs x = Due.of("po00;po00;");
        doc.says(8, "STRIKE: who was on it.");
        doc.is("strike(3)", x.strike(3), 0);
        doc.is("strike(0)", x.strike(0), 3);
        doc.is("strike(2)", x.strike(2), 0);
        doc.is("strike(1)", x.strike(1), 2);
        doc.is("those who were are not any more", x.count(4), 1);
        doc.says(8, "-1 bits of HOLDERS that there are not.");
        for (int bits : new int[] {4, 5, 7, 8, -1, LEAST, GREATEST}) {
            doc.is("strike(" + bits + ")", x.strike(bits), -1);
        }
        doc.is("it stays", x.strike(1), 1);
        doc.is("count(11)", x.count(11), 7);
        WhoseHourItIs eight = Due.of(EIGHT);
        doc.is("all eight", eight.strike(255), 0);
        doc.is("a ninth", eight.strike(256), -1);
        doc.is("all eight are on it", eight.count(4), 8);
        WhoseHourItIs none = new WhoseHourItIs();
        doc.is("none of none", none.strike(0), 0);
        doc.is("one of none", none.strike(1), -1);
    }

    private void onStrike() {
        doc.says(8, "A HOLDER who is on STRIKE (bits) gives no leave to others.");
        WhoseHourItIs x = Due.of("po10;po20;h00-27;h10-27;w0r1,27,9,0;w1r1,27,9,0;");
        x.strike(1);
        doc.is("not to the other", x.leave(1, 0, 5), -9);
        doc.is("to itself", x.leave(0, 0, 5), 0);
        doc.is("who is not on it", x.leave(0, 1, 5), 2);
        doc.is("the other's work", x.cost(1), -9);
        doc.is("its own work", x.cost(0), 2);
        x.strike(3);
        doc.is("both, its own work", x.cost(0), -9);
        x.strike(0);
        doc.is("none", x.cost(1), 1);
        WhoseHourItIs nobody = Due.of("po10;w0r1,27,9,0;");
        nobody.strike(1);
        doc.is("NOBODY's hours ask no leave", nobody.cost(0), 0);
        WhoseHourItIs kinds = Due.of("po00;py10;ps10;pj10;pk10;pn10;h10-3;h24-7;h38-11;h412-15;h516-19;h00-0;h04-4;w0r1,27,9,0;");
        kinds.strike(62);
        for (int holder = 1; holder < 6; holder++) {
            doc.is("of each KIND: " + holder, kinds.leave(0, holder, 4 * holder - 1), -9);
        }
    }

    private void bell() {
        WhoseHourItIs x = Due.of("po00;po50;h10-27;w0r1,27,9,3;w0r1,27,9,4;");
        doc.says(9, "BELL (hour -1: none): the HOUR that it was; -9 none.");
        doc.is("bell(0, 3)", x.bell(0, 3), -9);
        doc.is("bell(27, 3)", x.bell(27, 3), 0);
        doc.is("bell(-1, 3)", x.bell(-1, 3), 27);
        doc.is("bell(-1, 3)", x.bell(-1, 3), -9);
        doc.says(9, "an HOUR is given up by all for a SORT (one BELL; -1 none)");
        x.bell(8, 3);
        doc.is("the HOUR for the SORT", x.leave(0, 1, 8), 0);
        doc.is("the one ahead", x.leave(0, 1, 7), 5);
        doc.is("the one behind", x.leave(0, 1, 9), 5);
        doc.is("another SORT", x.leave(1, 1, 8), 5);
        x.bell(9, 4);
        doc.is("one BELL alone", x.leave(0, 1, 8), 5);
        doc.is("another SORT", x.leave(1, 1, 9), 0);
        x.bell(-1, 4);
        doc.is("none", x.leave(1, 1, 9), 5);
        for (int sort = 0; sort <= 9; sort++) {
            WhoseHourItIs y = Due.of("po00;po50;h10-27;w0r1,27,9," + sort + ";");
            y.bell(0, sort);
            doc.is("SORT " + sort, y.one(0), 1);
            doc.is("its cost", y.cost(0), 0);
            y.bell(0, 9 - sort);
            doc.is("not SORT " + sort, y.cost(0), 5);
        }
        doc.says(9, "-1; -4; -6 9.");
        x.bell(11, 3);
        int[][] refused = {{28, 3, -1}, {-2, 3, -1}, {LEAST, 3, -1}, {GREATEST, 3, -1}, {5, -1, -4}, {5, LEAST, -4},
            {5, 10, -6}, {5, GREATEST, -6}, {28, -1, -1}, {28, 10, -1}, {-1, -1, -4}, {-1, 10, -6}};
        for (int[] r : refused) {
            doc.is("bell(" + r[0] + ", " + r[1] + ")", x.bell(r[0], r[1]), r[2]);
            doc.is("its HOUR and SORT stay", x.leave(0, 1, 11), 0);
        }
        doc.is("it stays", x.bell(-1, 0), 11);
        doc.is("count(11)", x.count(11), 6);
        doc.is("count(14)", x.count(14), 3);
        doc.is("count(16)", x.count(16), 3);
    }

    private void leave() {
        WhoseHourItIs x = Due.of("po00;po50;pt00;h11-1;h22-2;w0r1,27,9,0;");
        doc.says(10, "COST of a HOLDER's part for a WORK; -9 no leave; 0 it has no part there.");
        doc.is("its part", x.leave(0, 1, 1), 5);
        doc.is("no part, the HOUR ahead", x.leave(0, 1, 0), 0);
        doc.is("no part, the HOUR behind", x.leave(0, 1, 2), 0);
        doc.is("no leave", x.leave(0, 2, 2), -9);
        doc.is("NEVER without a part", x.leave(0, 2, 1), 0);
        x.strike(6);
        doc.is("on STRIKE", x.leave(0, 1, 1), -9);
        doc.is("on STRIKE without a part", x.leave(0, 1, 0), 0);
        doc.is("later than BY", Due.of("po00;po50;h10-27;w0r1,0,9,0;").leave(0, 1, 27), 5);
        doc.says(10, "-1 any.");
        int[][] refused = {{1, 0, 0}, {-1, 0, 0}, {0, 3, 0}, {0, -1, 0}, {0, 0, 28}, {0, 0, -1}, {1, 3, 28},
            {LEAST, 0, 0}, {0, LEAST, 0}, {0, 0, LEAST}, {GREATEST, 0, 0}, {0, GREATEST, 0}, {0, 0, GREATEST}};
        for (int[] r : refused) {
            doc.is("leave(" + r[0] + ", " + r[1] + ", " + r[2] + ")", x.leave(r[0], r[1], r[2]), -1);
        }
        doc.is("count(11)", x.count(11), refused.length);
        doc.is("leave(0, 0, 27)", x.leave(0, 0, 27), 0);
    }

    private void freeParts() {
        doc.says(10, "0, if it is the part of who does it, if the HOUR is a BELL's of the WORK's SORT, or if the two are WED");
        for (char kind : "oysjknt".toCharArray()) {
            WhoseHourItIs x = Due.of("p" + kind + "99;p" + kind + "99;h00-27;h10-27;w0r1,27,9,0;");
            doc.is(kind + ": who does it", x.leave(0, 0, 4), 0);
            x.bell(4, 0);
            doc.is(kind + ": a BELL's", x.leave(0, 1, 4), 0);
            x.bell(-1, 0);
            x.marry(0, 1);
            doc.is(kind + ": WED", x.leave(0, 1, 4), 0);
        }
        WhoseHourItIs y = Due.of("po90;po90;po90;h00-27;h10-27;h20-27;w0r1,27,9,0;w1r1,27,9,0;w2r1,27,9,0;");
        y.marry(1, 0);
        doc.is("either of them", y.leave(0, 1, 4) + y.leave(1, 0, 4), 0);
        doc.is("a third one", y.leave(0, 2, 4), 9);
        doc.is("to a third one", y.leave(2, 0, 4), 9);
    }

    private void onceAndYear() {
        doc.says(10, "ONCE PRICE.");
        for (int price = 0; price <= 9; price++) {
            WhoseHourItIs x = Due.of("po00;po" + price + "0;h10-27;w0r6,27,9,0;");
            doc.is("PRICE " + price, x.leave(0, 1, 27), price);
        }
        doc.says(10, "YEAR twice PRICE by LENGTH of the WORK, rounded up.");
        int[][] due = {
            {0, 2, 4, 6, 8, 10, 12, 14, 16, 18}, {0, 1, 2, 3, 4, 5, 6, 7, 8, 9}, {0, 1, 2, 2, 3, 4, 4, 5, 6, 6},
            {0, 1, 1, 2, 2, 3, 3, 4, 4, 5}, {0, 1, 1, 2, 2, 2, 3, 3, 4, 4}, {0, 1, 1, 1, 2, 2, 2, 3, 3, 3}};
        for (int length = 1; length <= 6; length++) {
            for (int price = 0; price <= 9; price++) {
                WhoseHourItIs x = Due.of("po00;py" + price + "0;h10-27;w0s" + length + ",27,9,0;");
                doc.is("LENGTH " + length + ", PRICE " + price, x.leave(0, 1, 0), due[length - 1][price]);
                doc.is("each of its HOURS so", x.cost(0), length * due[length - 1][price]);
            }
        }
    }

    private void swap() {
        doc.says(10, "SWAP 0, if who does it has a part of some HOUR of that DAY; else twice PRICE.");
        for (int held = 0; held < 28; held++) {
            WhoseHourItIs x = Due.of("po00;ps40;h10-27;h0" + held + "-" + held + ";w0r1,27,9,0;");
            for (int hour = 0; hour < 28; hour++) {
                doc.is("HOUR " + hour + ", its own is " + held, x.leave(0, 1, hour), hour / 4 == held / 4 ? 0 : 8);
            }
        }
        doc.is("the greatest", Due.of("po00;ps90;h10-27;w0r1,27,9,0;").leave(0, 1, 0), 18);
        doc.is("a part of one WED is not its own",
            wed(Due.of("po00;ps40;po00;h10-27;h20-0;w0r1,27,9,0;"), 0, 2).leave(0, 1, 0), 8);
        doc.says(10, "HOUR h is of DAY h by 4 (cut)");
        WhoseHourItIs y = Due.of("po00;ps40;h10-27;h07-7;w0r1,27,9,0;");
        doc.is("HOUR 3", y.leave(0, 1, 3), 8);
        doc.is("HOUR 4", y.leave(0, 1, 4), 0);
        doc.is("HOUR 7", y.leave(0, 1, 7), 0);
        doc.is("HOUR 8", y.leave(0, 1, 8), 8);
    }

    private static WhoseHourItIs wed(WhoseHourItIs x, int one, int other) {
        x.marry(one, other);
        return x;
    }

    private void joint() {
        doc.says(10, "JOINT PRICE times the HOUR's parts.");
        WhoseHourItIs x = Due.of("po00;pj90;po00;po00;h10-27;h21-27;h02-2;w3r1,27,9,0;");
        doc.is("one part", x.leave(0, 1, 0), 9);
        doc.is("two parts", x.leave(0, 1, 1), 18);
        doc.is("three parts", x.leave(0, 1, 2), 27);
        WhoseHourItIs own = Due.of("po00;pj40;h10-27;h00-0;w0r1,27,9,0;");
        doc.is("the part of who does it is one of them", own.leave(0, 1, 0), 8);
        doc.is("PRICE 0", Due.of("po00;pj00;h10-27;w0r1,27,9,0;").leave(0, 1, 0), 0);
    }

    private void kindAndNever() {
        doc.says(10, "KIND PRICE for a WORK of SORT FOR, no leave for others.");
        for (int sort = 0; sort <= 9; sort++) {
            for (int wants = 0; wants <= 9; wants++) {
                WhoseHourItIs x = Due.of("po00;pk7" + sort + ";h10-27;w0r1,27,9," + wants + ";");
                doc.is("FOR " + sort + ", SORT " + wants, x.leave(0, 1, 0), sort == wants ? 7 : -9);
            }
        }
        doc.says(10, "NEVER: no leave.");
        for (int price = 0; price <= 9; price += 9) {
            WhoseHourItIs x = Due.of("po00;pt" + price + "0;h10-27;w0r1,27,9,0;");
            doc.is("PRICE " + price, x.leave(0, 1, 0), -9);
        }
    }

    private void night() {
        doc.says(10, "NIGHT nothing at NIGHT; else PRICE.");
        WhoseHourItIs x = Due.of("po00;pn60;h10-27;w0r1,27,9,0;");
        for (int hour = 0; hour < 28; hour++) {
            boolean night = hour == 3 || hour == 7 || hour == 11 || hour == 15 || hour == 19 || hour == 23 || hour == 27;
            doc.is("HOUR " + hour, x.leave(0, 1, hour), night ? 0 : 6);
        }
        doc.says(10, "NIGHT if h modulo 4 is 3");
        doc.is("the first night", x.one(0), 1 << 3);
    }

    private void hoursInARow() {
        doc.says(11, "r: LENGTH HOURS one behind the other, the last no later than BY");
        for (int by = 0; by < 28; by++) {
            for (int length = 1; length <= 6; length++) {
                WhoseHourItIs x = Due.of("po00;w0r" + length + "," + by + ",9,0;");
                doc.is("LENGTH " + length + " by " + by, x.one(0), length <= by + 1 ? (1 << length) - 1 : 0);
            }
        }
        for (int last = 1; last < 28; last++) {
            WhoseHourItIs x = Due.of("po00;pt00;h10-" + (last - 1) + ";w0r1," + last + ",9,0;w0r1," + (last - 1) + ",9,0;");
            doc.is("HOUR " + last + " by " + last, x.one(0), 1 << last);
            doc.is("HOUR " + last + " by " + (last - 1), x.one(1), 0);
        }
        WhoseHourItIs y = Due.of("po00;pt00;h10-1;h16-25;w0r4,27,9,0;w0r5,27,9,0;");
        doc.is("over a DAY's end", y.one(0), 15 << 2);
        doc.is("five, where four are one behind the other", y.one(1), 0);
        WhoseHourItIs z = Due.of("po00;pt00;h12-25;w0r2,27,9,0;w0r3,27,9,0;");
        doc.is("the first two", z.one(0), 3);
        doc.is("not from HOUR 27 to HOUR 0", z.one(1), 0);
        doc.is("the last six", Due.of("po00;pt00;h10-21;w0r6,27,9,0;").one(0), 63 << 22);
        doc.says(11, "ONE (bits); 0 none. -1.");
        doc.nobody("one", z, 2, z::one);
    }

    private void hoursSpread() {
        doc.says(11, "s: LENGTH HOURS of unlike DAYS, none later than BY");
        for (int by = 0; by < 28; by++) {
            for (int length = 1; length <= 6; length++) {
                WhoseHourItIs x = Due.of("po00;w0s" + length + "," + by + ",9,0;");
                int firsts = 0x111111 & (1 << 4 * length) - 1;
                doc.is("LENGTH " + length + " by " + by, x.one(0), 4 * (length - 1) <= by ? firsts : 0);
            }
        }
        WhoseHourItIs y = Due.of("po00;pt00;h10-2;h14-27;w0s1,3,9,0;w0s1,2,9,0;w0s2,27,9,0;");
        doc.is("its last HOUR is BY", y.one(0), 8);
        doc.is("it is later than BY", y.one(1), 0);
        doc.is("one DAY for two", y.one(2), 0);
        WhoseHourItIs z = Due.of("po00;pt00;h13-3;h15-27;w0s2,27,9,0;w0s3,27,9,0;");
        doc.is("three HOURS of one DAY, one of the next", z.one(0), 1 | 1 << 4);
        doc.is("two DAYS for three", z.one(1), 0);
        doc.is("the last DAY, its last HOUR", Due.of("po00;pt00;h10-26;w0s1,27,9,0;").one(0), 1 << 27);
        // HOUR 4 alone costs nothing: it is DAY 1's, and DAY 0 has none so cheap.
        WhoseHourItIs next = Due.of("po00;po50;h10-3;h15-27;w0s2,27,9,0;w0s1,27,9,0;");
        doc.is("the next DAY's first HOUR is not of this DAY", next.one(0), 1 | 1 << 4);
        doc.is("its COST", next.cost(0), 5);
        doc.is("one HOUR alone", next.one(1), 1 << 4);
    }

    private void leastAsBits() {
        doc.says(11, "ONE of a WORK: the HOURS (bits) with least COST, of several those that are least as bits; none.");
        WhoseHourItIs x = Due.of("po00;po20;po10;h10-27;h26-6;h220-20;w0r1,27,9,0;w0r2,27,9,0;w0s1,27,9,0;");
        doc.is("the first of equal HOURS", x.one(0), 1);
        doc.is("the first of equal rows", x.one(1), 3);
        doc.is("the first of equal DAYS", x.one(2), 1);
        x.price(2, 0);
        doc.is("0 more is no more", x.one(0), 1);
        WhoseHourItIs y = Due.of("po00;po20;po10;h10-8;h29-10;h111-27;w0r2,27,9,0;w0s2,27,9,0;w0s1,27,9,0;w0r3,27,9,0;");
        doc.is("a cheaper row", y.one(0), 3 << 9);
        doc.is("a cheaper DAY, and the first of the others", y.one(1), 1 | 1 << 9);
        doc.is("of its two cheap HOURS the first", y.one(2), 1 << 9);
        doc.is("two cheap HOURS and one ahead of them", y.one(3), 7 << 8);
        // Each DAY has its least cost, 1, in its last two HOURS.
        WhoseHourItIs z = Due.of("po00;po20;po10;h10-1;h22-3;h14-5;h26-7;h18-9;h210-11;h112-27;w0s2,27,9,0;w0s4,27,9,0;");
        doc.is("within a DAY the first", z.one(0), 1 << 2 | 1 << 6);
        doc.is("a dear DAY for the fourth", z.one(1), 1 << 2 | 1 << 6 | 1 << 10 | 1 << 12);
        doc.is("none", Due.of("po00;pt00;h10-27;w0r1,27,9,0;").one(0), 0);
    }

    private void cost() {
        doc.says(12, "COST of these: of all parts of all of them together (none, if one gives no leave).");
        WhoseHourItIs x = Due.of("po00;pj90;pj90;pj90;h10-27;h20-27;h30-27;w0s6,27,99,0;w0r6,27,99,0;w0r1,27,99,0;");
        doc.is("three parts of six HOURS", x.cost(0), 486);
        doc.is("three parts of six HOURS in a row", x.cost(1), 486);
        doc.is("three parts of one", x.cost(2), 81);
        x.price(2, 0);
        doc.is("one of them for nothing", x.cost(2), 54);
        x.strike(4);
        doc.is("though it costs nothing: one gives no leave", x.cost(2), -9);
        doc.is("NOBODY's HOURS", Due.of("po00;w0r6,27,9,0;").cost(0), 0);
        doc.says(12, "COST of ONE; -9. -1.");
        doc.is("it can not be", Due.of("po00;w0r2,0,9,0;").cost(0), -9);
        doc.nobody("cost", x, 3, x::cost);
    }

    private void net() {
        doc.says(13, "NET of a WORK: WORTH less COST of ONE (none: it is not done, nor if that is below 0).");
        WhoseHourItIs x = Due.of("po00;po50;h10-27;w0r1,27,6,0;w0r1,27,5,0;w0r1,27,4,0;w0r1,27,99,0;");
        doc.is("WORTH 6, COST 5", x.net(0), 1);
        doc.is("WORTH 5, COST 5", x.net(1), 0);
        doc.is("WORTH 4, COST 5", x.net(2), -9);
        doc.is("WORTH 99, COST 5", x.net(3), 94);
        x.strike(2);
        doc.is("none", x.net(3), -9);
        doc.is("WORTH 0, COST 0", Due.of("po00;w0r1,27,0,0;").net(0), 0);
        WhoseHourItIs y = Due.of("po00;po90;po10;h10-27;h20-27;w0r1,27,0,0;w0r1,27,1,0;");
        doc.is("9 below 0", y.net(1), -9);
        doc.is("10 below 0", y.net(0), -9);
        doc.says(13, "NET, if it is done; -9 not. -1.");
        doc.nobody("net", y, 2, y::net);
    }

    private void whoBars() {
        doc.says(14, "HOLDERS (bits) of which each, if it alone gave leave for all its parts, would make it possible.");
        WhoseHourItIs seven = Due.of("po00;pt00;pt00;pt00;pt00;pt00;pt00;pt00;h10-0;h21-1;h32-2;h43-3;h54-4;h65-5;h76-6;w0r1,6,0,0;");
        doc.is("each of seven", seven.bars(0), 254);
        WhoseHourItIs pairs = Due.of("po00;pt00;pt00;h10-27;h20-27;w0r1,27,9,0;");
        doc.is("none alone of two", pairs.bars(0), 0);
        Due.tell(pairs, "w1r1,27,9,0;");
        doc.is("the other's work", pairs.bars(1), 4);
        WhoseHourItIs kinds = Due.of("po00;pk01;po00;h10-0;h21-1;h22-3;w0r1,1,9,0;w0r2,1,9,0;w0r2,3,9,0;");
        kinds.strike(4);
        doc.is("another SORT, or on STRIKE", kinds.bars(0), 6);
        doc.is("both are wanted", kinds.bars(1), 0);
        doc.is("the one who has two in a row", kinds.bars(2), 4);
        WhoseHourItIs both = Due.of("po00;pt00;h10-27;w0r1,27,9,0;");
        both.strike(2);
        doc.is("NEVER and on STRIKE, too", both.bars(0), 2);
        WhoseHourItIs spread = Due.of("po00;pt00;pt00;h10-3;h24-7;w0s6,27,9,0;w0s6,24,9,0;w0s6,20,9,0;");
        doc.is("one of two DAYS", spread.bars(0), 6);
        doc.is("by HOUR 24", spread.bars(1), 6);
        doc.is("all six DAYS are wanted", spread.bars(2), 0);
        doc.is("the first HOLDER", Due.of("pt00;po00;h00-27;w1r1,27,9,0;").bars(0), 1);
        doc.is("no HOURS enough by BY", Due.of("po00;pt00;h10-27;w0r2,0,9,0;").bars(0), 0);
        doc.says(14, "-1; -3 it can be.");
        WhoseHourItIs can = Due.of("po00;po90;h10-27;w0r1,27,0,0;");
        doc.is("it can be, though it is not done", can.bars(0), -3);
        doc.nobody("bars", can, 1, can::bars);
        doc.is("count(13)", can.count(13), 1);
        both.strike(0);
        wed(both, 0, 1);
        doc.is("WED: it can be", both.bars(0), -3);
    }
}
