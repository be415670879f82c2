/** Edges that the document names for promises 15 to 22: all works, prices at rest, stops, power, whom to wed. */
public final class WorkEdges {
    private static final String EIGHT = "po00;po00;po00;po00;po00;po00;po00;po00;";

    private final Sentences doc = new Sentences();

    public static void main(String[] args) {
        WorkEdges t = new WorkEdges();
        t.rowsAlone();
        t.noHourTwice();
        t.greatestSum();
        t.firstWay();
        t.begin();
        t.ask();
        t.rest();
        t.stop();
        t.stopAll();
        t.power();
        t.powerOrders();
        t.wed();
        t.wedCountsAHundred();
        t.doc.end(15, 22);
    }

    private void rowsAlone() {
        doc.says(15, "ALL of the WORKS (r alone are looked at; 3 at most of them)");
        WhoseHourItIs x = Due.of("po00;");
        doc.is("no WORKS", new WhoseHourItIs().all(), 0);
        doc.is("no WORKS of a HOLDER", x.all(), 0);
        Due.tell(x, "w0s1,27,90,0;w0s1,27,90,0;w0s1,27,90,0;");
        doc.is("three spread", x.all(), 0);
        for (int rows = 1; rows <= 3; rows++) {
            Due.tell(x, "w0r1,27,9,0;");
            doc.is("three spread, " + rows + " in a row", x.all(), 9 * rows);
        }
        for (int rows = 0; rows <= 3; rows++) {
            String six = "w0s1,27,90,0;".repeat(6 - rows) + "w0r1,27,9,0;".repeat(rows);
            doc.is("six WORKS, " + rows + " in a row", Due.of("po00;" + six).all(), 9 * rows);
        }
        doc.says(15, "-6 more than 3 WORKS in a row.");
        WhoseHourItIs four = Due.of("po00;w0r1,27,9,0;w0r1,27,9,0;w0r1,27,9,0;");
        doc.is("three", four.all(), 27);
        Due.tell(four, "w0r1,27,9,0;");
        doc.is("four", four.all(), -6);
        Due.tell(four, "w0r1,27,9,0;w0r1,27,9,0;");
        doc.is("six", four.all(), -6);
        doc.is("count(16)", four.count(16), 2);
    }

    private void noHourTwice() {
        doc.says(15, "each is done in a row or not, no HOUR twice");
        for (int by = 16; by <= 18; by++) {
            String wants = "6," + by + ",";
            WhoseHourItIs x = Due.of("po00;w0r" + wants + "30,0;w0r" + wants + "20,0;w0r" + wants + "10,0;");
            doc.is("three times six HOURS by " + by, x.all(), by < 17 ? 50 : 60);
        }
        doc.is("one HOUR for three", Due.of("po00;w0r1,0,7,0;w0r1,0,9,0;w0r1,0,8,0;").all(), 9);
        doc.is("two HOURS for three", Due.of("po00;w0r1,1,7,0;w0r1,1,9,0;w0r1,1,8,0;").all(), 17);
        doc.is("three HOURS for three", Due.of("po00;w0r1,2,7,0;w0r1,2,9,0;w0r1,2,8,0;").all(), 24);
        doc.is("a long one or two short ones", Due.of("po00;w0r2,1,15,0;w0r1,1,8,0;w0r1,1,8,0;").all(), 16);
        doc.is("two short ones or a long one", Due.of("po00;w0r2,1,17,0;w0r1,1,8,0;w0r1,1,8,0;").all(), 17);
    }

    private void greatestSum() {
        doc.says(15, "the greatest sum of WORTHS less COSTS of those done");
        WhoseHourItIs x = Due.of("po00;po50;h10-27;w0r1,27,6,0;w0r1,27,5,0;w0r1,27,4,0;");
        doc.is("6 less 5, 5 less 5, 4 less 5", x.all(), 1);
        // HOUR 0 costs nothing, HOUR 1 costs 5: the second can be there alone.
        WhoseHourItIs y = Due.of("po00;po50;h11-1;w0r1,1,9,0;w0r1,0,9,0;");
        doc.is("the first in dear HOUR 1, the second in HOUR 0", y.all(), 13);
        doc.is("begin(0)", y.begin(0), 1);
        doc.is("begin(1)", y.begin(1), 0);
        doc.is("the greatest", Due.of("po00;w0r6,27,99,0;w0r6,27,99,0;w0r6,27,99,0;").all(), 297);
        doc.is("no leave", Due.of("po00;pt00;h10-27;w0r1,27,99,0;").all(), 0);
        WhoseHourItIs again = Due.of("po00;");
        again.image();
        Due.tell(again, "w0r1,27,9,0;w0r1,27,9,0;");
        doc.is("two HOURS for two", again.all(), 18);
        again.on();
        Due.tell(again, "w0r1,0,9,0;w0r1,0,9,0;");
        doc.is("one HOUR for two others", again.all(), 9);
        doc.is("NET 0", Due.of("po00;w0r1,27,0,0;").all(), 0);
    }

    private void firstWay() {
        doc.says(16, "of several ways the first (by WORKS: not done, HOUR 0, 1, ..)");
        WhoseHourItIs x = Due.of("po00;w0r1,1,5,0;w0r1,1,5,0;w0r1,1,5,0;");
        doc.is("of three equal ones the first is not done", x.begin(0), -9);
        doc.is("the second", x.begin(1), 0);
        doc.is("the third", x.begin(2), 1);
        WhoseHourItIs nothing = Due.of("po00;po50;h10-27;w0r1,27,5,0;w0r1,27,0,0;");
        doc.is("done for 0 and not done are the same", nothing.begin(0), -9);
        WhoseHourItIs y = Due.of("po00;w0r2,5,5,0;w0r2,5,5,0;w0r2,5,5,0;");
        doc.is("the first", y.begin(0), 0);
        doc.is("the second", y.begin(1), 2);
        doc.is("the third", y.begin(2), 4);
        WhoseHourItIs spread = Due.of("po00;w0r1,0,5,0;w0s1,0,9,0;w0r1,0,5,0;");
        doc.is("spread ones want no HOUR", spread.begin(0), -9);
        doc.is("the last of them", spread.begin(2), 0);
    }

    private void begin() {
        doc.says(16, "BEGIN by ALL; -9 not done (or spread).");
        doc.is("the last HOUR", Due.of("po00;pt00;h10-26;w0r1,27,9,0;").begin(0), 27);
        doc.is("the last six", Due.of("po00;pt00;h10-21;w0r6,27,9,0;").begin(0), 22);
        doc.is("the last by BY", Due.of("po00;pt00;h10-4;w0r1,5,9,0;").begin(0), 5);
        doc.is("later than BY", Due.of("po00;pt00;h10-5;w0r1,5,9,0;").begin(0), -9);
        doc.is("more HOURS than by BY", Due.of("po00;w0r2,0,9,0;").begin(0), -9);
        doc.is("not done", Due.of("po00;po90;h10-27;w0r1,27,8,0;").begin(0), -9);
        doc.is("spread", Due.of("po00;w0s1,27,8,0;").begin(0), -9);
        doc.says(16, "-1; -6 likewise.");
        WhoseHourItIs x = Due.of("po00;w0r1,27,9,0;w0r1,27,9,0;w0r1,27,9,0;w0s1,27,9,0;");
        doc.is("begin(2)", x.begin(2), 2);
        doc.nobody("begin", x, 4, x::begin);
        Due.tell(x, "w0r1,27,9,0;");
        doc.is("four in a row: begin(0)", x.begin(0), -6);
        doc.is("four in a row: a spread one", x.begin(3), -6);
        doc.is("count(16)", x.count(16), 2);
        doc.nobody("four in a row: begin", x, 5, x::begin);
    }

    private void ask() {
        doc.says(17, "the PRICE 0 .. 9 with which its INCOME is greatest (others' as they are), of several the least.");
        WhoseHourItIs x = Due.of("po50;po30;h10-27;w0r1,27,99,0;");
        doc.is("the greatest PRICE", x.ask(1), 9);
        doc.is("without a part the least", x.ask(0), 0);
        doc.is("PRICE stays", x.holder(1, 1), 3);
        for (int worth = 0; worth <= 20; worth++) {
            WhoseHourItIs y = Due.of("po00;po90;h10-27;w0r2,27," + worth + ",0;");
            doc.is("two HOURS, WORTH " + worth, y.ask(1), Math.min(9, worth / 2));
        }
        doc.is("7, 8 and 9 by 6, rounded up, are 3", Due.of("po00;py00;h10-27;w0r6,27,99,0;").ask(1), 7);
        doc.is("NEVER", Due.of("po00;pt90;h10-27;w0r1,27,99,0;").ask(1), 0);
        // A WORK of 99 and three of 3: 9 of one, or 3 of four.
        WhoseHourItIs four = Due.of("po00;po00;h10-27;w0r1,27,99,0;w0r1,27,3,0;w0r1,27,3,0;");
        doc.is("9 of one and 3 of three are the same", four.ask(1), 3);
        Due.tell(four, "w0r1,27,3,0;");
        doc.is("3 of four", four.ask(1), 3);
        WhoseHourItIs rivals = Due.of("po00;po50;po50;h10-0;h21-1;w0r1,1,9,0;");
        doc.is("the first HOUR's at the other's PRICE", rivals.ask(1), 5);
        doc.is("the second HOUR's below it", rivals.ask(2), 4);
        rivals.price(1, 0);
        doc.is("nothing to be had", rivals.ask(2), 0);
        doc.says(17, "ASK. -1.");
        doc.nobody("ask", x, 2, x::ask);
        doc.is("no holders", new WhoseHourItIs().ask(0), -1);
    }

    private void rest() {
        doc.says(18, "after how many rounds (that in which none changes counted); -9.");
        doc.is("no holders", new WhoseHourItIs().rest(), 1);
        doc.is("one at rest", Due.of("po00;").rest(), 1);
        doc.is("one who changes", Due.of("po50;").rest(), 2);
        doc.says(18, "till none's PRICE changes (10 rounds at most; in mind: PRICES stay as they were)");
        // The two underbid one another by 1 in each round, down to 0 and 0.
        int[] rounds = {1, 3, 4, 5, 6, 7, 8, 9, 10, -9};
        for (int price = 0; price <= 9; price++) {
            WhoseHourItIs x = Due.of("po00;po" + price + "0;po" + price + "0;h10-0;h21-1;w0r1,1,9,0;");
            doc.is("both begin with " + price, x.rest(), rounds[price]);
            doc.is("PRICE of the first", x.holder(1, 1), price);
            doc.is("PRICE of the second", x.holder(2, 1), price);
        }
        doc.says(18, "HOLDERS by numbers take their ASKS, again and again");
        WhoseHourItIs y = Due.of("po00;po90;po90;h11-1;h20-0;w0r1,1,9,0;");
        // 1 takes 8 below 9; 2 takes 8 at once, and so on: 1 is 0 in round 9, and 2 in the same.
        doc.is("the lower number goes first", y.rest(), 10);
    }

    private void stop() {
        doc.says(19, "the fewest HOLDERS (not who does it) who, on STRIKE besides those who are on it now, make a WORK impossible");
        WhoseHourItIs x = Due.of("po00;po00;po00;po00;h10-0;h21-1;h30-1;w0r1,1,9,0;");
        doc.is("one with a greater number, not two with less", x.stop(0), 8);
        WhoseHourItIs seven = Due.of(EIGHT + "h10-0;h21-1;h32-2;h43-3;h54-4;h65-5;h76-6;w0r1,6,9,0;");
        doc.is("all seven others", seven.stop(0), 254);
        seven.strike(64);
        doc.is("besides one on it", seven.stop(0), 190);
        seven.strike(126);
        doc.is("besides six on it", seven.stop(0), 128);
        seven.strike(254);
        doc.is("besides all on it", seven.stop(0), 0);
        doc.is("STRIKE stays", seven.strike(0), 254);
        doc.says(19, "of several the least as bits; -9 it can not be stopped; 0 it can not be anyhow.");
        doc.is("one of three", Due.of("po00;po00;po00;po00;h10-0;h20-0;h30-0;w0r1,0,9,0;").stop(0), 2);
        doc.is("the first HOLDER", Due.of("po00;po00;h00-27;w1r1,27,9,0;").stop(0), 1);
        doc.is("two of three", Due.of("po00;po00;po00;po00;h10-1;h20-0;h31-2;h22-2;w0r1,2,9,0;").stop(0), 6);
        doc.is("NOBODY's HOUR", Due.of("po00;po00;h10-26;w0r1,27,9,0;").stop(0), -9);
        doc.is("its own HOUR", Due.of("po00;po00;h10-26;h027-27;w0r1,27,9,0;").stop(0), -9);
        WhoseHourItIs bell = Due.of("po00;po00;h10-27;w0r1,27,9,3;");
        bell.bell(27, 3);
        doc.is("a BELL's HOUR", bell.stop(0), -9);
        bell.bell(27, 4);
        doc.is("a BELL's HOUR of another SORT", bell.stop(0), 2);
        bell.marry(0, 1);
        doc.is("HOURS of one WED", bell.stop(0), -9);
        doc.is("NEVER", Due.of("po00;pt00;h10-27;w0r1,27,9,0;").stop(0), 0);
        doc.is("more HOURS than by BY", Due.of("po00;po00;h10-27;w0r2,0,9,0;").stop(0), 0);
        doc.says(19, "STOP (bits); -9. -1.");
        doc.nobody("stop", bell, 1, bell::stop);
    }

    private void stopAll() {
        doc.says(20, "make each WORK of one who is not of them impossible, of several the least as bits.");
        doc.is("no HOLDERS", new WhoseHourItIs().stopAll(), 0);
        doc.is("no WORKS", Due.of(EIGHT).stopAll(), 0);
        doc.is("WORKS that can not be", Due.of("po00;pt00;h10-27;w0r1,27,9,0;").stopAll(), 0);
        doc.is("who does it, of NOBODY's HOURS", Due.of("po00;po00;w1r1,27,9,0;").stopAll(), 2);
        doc.is("the only one", Due.of("po00;w0r1,27,9,0;").stopAll(), 1);
        doc.is("everyone", Due.of("po00;po00;w0r1,27,9,0;w1r1,27,9,0;").stopAll(), 3);
        doc.is("either would do: the least", Due.of("po00;po00;h00-27;w1r1,27,9,0;").stopAll(), 1);
        doc.is("either would do: the least", Due.of("po00;po00;h10-27;w0r1,27,9,0;").stopAll(), 1);
        doc.is("one for two WORKS", Due.of("po00;po00;po00;h20-27;w0r1,27,9,0;w1r1,27,9,0;").stopAll(), 4);
        WhoseHourItIs six = Due.of(EIGHT + "w2r1,27,9,0;w3r1,27,9,0;w4r1,27,9,0;w5r1,27,9,0;w6r1,27,9,0;w7r1,27,9,0;");
        doc.is("six who do them", six.stopAll(), 252);
        WhoseHourItIs own = Due.of("po00;po00;po00;h10-27;h20-27;w1r1,27,9,0;w2r1,27,9,0;");
        doc.is("one of the two stops the other", own.stopAll(), 2);
        doc.says(20, "the fewest HOLDERS who, on STRIKE besides those who are on it now");
        WhoseHourItIs x = Due.of("po00;po00;po00;po00;h20-0;h31-1;w0r1,1,9,0;w1r1,1,9,0;");
        doc.is("two of two kinds", x.stopAll(), 3);
        x.strike(4);
        doc.is("besides one on it", x.stopAll(), 8);
        x.strike(12);
        doc.is("besides both on it", x.stopAll(), 0);
        doc.is("STRIKE stays", x.strike(0), 12);
    }

    private void fraction(String what, WhoseHourItIs x, int holder, int above, int below) {
        doc.is(what + ", above the line", x.power(holder, 0, 0), above);
        doc.is(what + ", below the line", x.power(holder, 0, 1), below);
    }

    private void power() {
        doc.says(21, "how often the WORK is possible with it and was not just ahead of it, by how many orders there are, in least terms.");
        WhoseHourItIs x = Due.of("po00;po00;po00;po00;h10-1;h20-0;h31-1;w0r1,1,9,0;");
        fraction("4 of 6", x, 1, 2, 3);
        fraction("1 of 6", x, 2, 1, 6);
        fraction("1 of 6", x, 3, 1, 6);
        fraction("1 of 1", Due.of("po00;po00;h10-27;w0r1,27,9,0;"), 1, 1, 1);
        fraction("never with it: 0 of 1", Due.of("po00;pt00;h10-27;w0r1,27,9,0;"), 1, 0, 1);
        fraction("possible ahead of it: 0 of 2", Due.of("po00;po00;po00;w0r1,27,9,0;"), 2, 0, 1);
        fraction("never possible: 0 of 24", Due.of("po00;po00;po00;po00;po00;h10-27;w0r2,0,9,0;"), 1, 0, 1);
        doc.says(21, "POWER, part 0 above, 1 below the line. -1 (who does it, too); -2; -6 more than 6 HOLDERS.");
        doc.is("who does it", x.power(0, 0, 0), -1);
        doc.is("power(4, 0, 0)", x.power(4, 0, 0), -1);
        doc.is("power(-1, 0, 0)", x.power(-1, 0, 0), -1);
        doc.is("power(1, 1, 0)", x.power(1, 1, 0), -1);
        doc.is("power(1, -1, 0)", x.power(1, -1, 0), -1);
        doc.is("power(1, 0, -1)", x.power(1, 0, -1), -2);
        doc.is("power(1, 0, 2)", x.power(1, 0, 2), -2);
        doc.is("power(0, 0, 2)", x.power(0, 0, 2), -1);
        doc.is("count(11)", x.count(11), 6);
        doc.is("count(12)", x.count(12), 2);
        Due.tell(x, "po00;po00;");
        fraction("six HOLDERS", x, 1, 2, 3);
        Due.tell(x, "po00;");
        doc.is("seven HOLDERS", x.power(1, 0, 0), -6);
        doc.is("seven HOLDERS", x.power(1, 0, 1), -6);
        doc.is("seven HOLDERS, what", x.power(1, 0, 2), -2);
        doc.is("seven HOLDERS, who does it", x.power(0, 0, 0), -1);
        doc.is("count(16)", x.count(16), 2);
    }

    private void powerOrders() {
        doc.says(21, "over all orders of those who do not do it (5 at most), who give leave (as they do) one behind the other");
        WhoseHourItIs five = Due.of("po00;po00;po00;po00;po00;po00;h10-0;h20-0;h30-0;h41-1;h51-1;w0r2,1,9,0;");
        for (int holder = 1; holder <= 5; holder++) {
            fraction("all five are wanted", five, holder, 1, 5);
        }
        // Any one of five opens the WORK: it is so with the first of each order.
        WhoseHourItIs any = Due.of("po00;po00;po00;po00;po00;po00;h10-0;h21-1;h32-2;h43-3;h54-4;w0r1,4,9,0;");
        for (int holder = 1; holder <= 5; holder++) {
            fraction("one of five is wanted", any, holder, 1, 5);
        }
        WhoseHourItIs as = Due.of("po00;pt00;po00;po00;h10-0;h20-0;h31-1;h22-2;w0r1,2,9,0;");
        fraction("one who never gives leave", as, 1, 0, 1);
        fraction("one who does", as, 2, 1, 2);
        WhoseHourItIs first = Due.of("po00;po00;po00;po00;h00-1;h10-0;h21-1;w3r1,1,9,0;");
        fraction("the first HOLDER", first, 0, 2, 3);
        fraction("the one behind it", first, 1, 1, 6);
        doc.says(21, "those behind being on STRIKE");
        WhoseHourItIs last = Due.of("po00;po00;po00;h00-0;h10-0;h20-0;w0r1,0,9,0;");
        fraction("the last of two", last, 1, 1, 2);
        last.marry(0, 2);
        fraction("who is WED is asked no leave", last, 1, 1, 1);
        fraction("who is WED has none", last, 2, 0, 1);
    }

    private void wed() {
        doc.says(22, "COSTS of ONE of all its WORKS together are least"
            + " (one that can not be counts 100), less than now, of several the least; -9.");
        WhoseHourItIs x = Due.of("po00;po40;po50;po50;h10-27;h20-27;h30-27;w0r1,27,0,0;");
        doc.is("of two who save 5 the least", x.wed(0), 2);
        doc.is("nobody is WED by that", x.wedTo(0), -9);
        x.marry(0, 2);
        doc.is("the other saves as much, no more", x.wed(0), -9);
        x.marry(0, 1);
        doc.is("WED to one who saves 4", x.wed(0), 2);
        x.price(2, 4);
        x.price(3, 4);
        doc.is("none saves more than 4", x.wed(0), -9);
        doc.is("without WORKS", x.wed(1), -9);
        doc.is("nothing to save", Due.of("po00;po40;w0r1,27,0,0;").wed(0), -9);
        doc.is("no other one", Due.of("po00;h00-27;w0r1,27,0,0;").wed(0), -9);
        doc.is("0 for 0", Due.of("po00;po00;h10-27;w0r1,27,0,0;").wed(0), -9);
        doc.is("the eighth", Due.of("po00;po00;po00;po00;po00;po00;po00;po10;h70-27;w0r1,27,0,0;").wed(0), 7);
        doc.is("the first for the eighth", Due.of("po10;po00;po00;po00;po00;po00;po00;po00;h00-27;w7r1,27,0,0;").wed(7), 0);
        WhoseHourItIs taken = Due.of("po00;po90;po00;h10-27;w0r1,27,0,0;");
        taken.marry(1, 2);
        doc.is("one who is WED to another", taken.wed(0), 1);
        doc.is("they stay", taken.wedTo(1), 2);
        doc.says(22, "WED: of HOLDERS that other one with whom, WED to it (all parts of each free to the other)");
        doc.is("not itself", Due.of("po00;po90;h00-27;w0r1,27,0,0;").wed(0), -9);
        doc.is("not one whose parts are not of ONE", Due.of("po00;po90;h11-27;w0r1,27,0,0;").wed(0), -9);
        // With 1 the HOURS 6 to 11 cost nothing, with 2 they cost as much as ever.
        WhoseHourItIs parts = Due.of("po00;po20;po30;h10-27;h20-5;h212-27;w0r6,27,0,0;");
        doc.is("all its parts", parts.wed(0), 1);
        doc.says(22, "WED; -9. -1.");
        doc.nobody("wed", x, 4, x::wed);
    }

    private void wedCountsAHundred() {
        doc.says(22, "(one that can not be counts 100)");
        // With 1 three WORKS of 30 are free and one can not be: 100. With 2 it is for 9 (and what 4 asks): 99 or more.
        WhoseHourItIs x = Due.of("po00;pj30;pt00;po90;po00;h20-0;h30-0;h40-0;h11-27;h01-27;"
            + "w0r1,0,0,0;w0r5,27,0,0;w0r5,27,0,0;w0r5,27,0,0;");
        doc.is("one that can not be", x.cost(0), -9);
        doc.is("the others", x.cost(1), 30);
        doc.is("99 is less than 100", x.wed(0), 2);
        x.price(4, 1);
        doc.is("100 is 100: the least", x.wed(0), 1);
        x.price(4, 2);
        doc.is("101 is more than 100", x.wed(0), 1);
        WhoseHourItIs y = Due.of("po00;pj90;pt00;h10-27;h00-27;h20-27;w0r1,27,0,0;");
        doc.is("though it were 27: it can not be now, with 2 it can", y.wed(0), 2);
        doc.is("100 for each that can not be, with any", Due.of("po00;pt00;pt00;h10-27;h20-27;w0r1,27,0,0;").wed(0), -9);
    }
}
