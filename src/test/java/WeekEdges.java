/** Edges that the document names for promises 23 to 35: weddings, heirs, seasons, years, rows, images, counts. */
public final class WeekEdges {
    private static final int LEAST = Integer.MIN_VALUE;
    private static final int GREATEST = Integer.MAX_VALUE;
    private static final String EIGHT = "po00;po00;po00;po00;po00;po00;po00;po00;";

    private final Sentences doc = new Sentences();

    public static void main(String[] args) {
        WeekEdges t = new WeekEdges();
        t.marry();
        t.wedTo();
        t.heirs();
        t.give();
        t.together();
        t.season();
        t.year();
        t.draws();
        t.years();
        t.row();
        t.judgedHours();
        t.notDone();
        t.judge();
        t.image();
        t.on();
        t.count();
        t.countOfRefusals();
        t.doc.end(23, 35);
    }

    private void marry() {
        doc.says(23, "Two are WED from now on (those that they were WED to are not any more): 1.");
        WhoseHourItIs x = Due.of(EIGHT);
        doc.is("the first and the last", x.marry(0, 7), 1);
        doc.is("wedTo(0)", x.wedTo(0), 7);
        doc.is("wedTo(7)", x.wedTo(7), 0);
        doc.is("two more", x.marry(3, 2), 1);
        doc.is("the same two again", x.marry(0, 7), 1);
        doc.is("the other way round", x.marry(7, 0), 1);
        doc.is("they are WED", x.wedTo(7), 0);
        doc.is("one of each", x.marry(7, 3), 1);
        int[] wed = {-9, -9, -9, 7, -9, -9, -9, 3};
        for (int holder = 0; holder < 8; holder++) {
            doc.is("wedTo(" + holder + ")", x.wedTo(holder), wed[holder]);
        }
        doc.is("one who is and one who is not", x.marry(1, 3), 1);
        doc.is("who is left", x.wedTo(7), -9);
        doc.is("wedTo(3)", x.wedTo(3), 1);
        doc.says(23, "-1 (one twice, too).");
        int[][] refused = {{1, 1}, {-1, 0}, {0, -1}, {8, 0}, {0, 8}, {8, 8}, {LEAST, 0}, {0, GREATEST}};
        for (int[] r : refused) {
            doc.is("marry(" + r[0] + ", " + r[1] + ")", x.marry(r[0], r[1]), -1);
        }
        doc.is("they stay", x.wedTo(1), 3);
        doc.is("count(11)", x.count(11), refused.length);
    }

    private void wedTo() {
        doc.says(24, "To whom it is WED; -9. -1.");
        WhoseHourItIs x = Due.of("po00;po00;");
        doc.is("wedTo(0)", x.wedTo(0), -9);
        x.marry(1, 0);
        doc.is("wedTo(0)", x.wedTo(0), 1);
        doc.is("wedTo(1)", x.wedTo(1), 0);
        doc.nobody("wedTo", x, 2, x::wedTo);
        Due.tell(x, "po00;");
        doc.is("one more", x.wedTo(2), -9);
        doc.is("count(11)", x.count(11), 4);
    }

    private void heirs() {
        doc.says(25, "after how many lives an HOUR, each part of which comes to 2 heirs in each, "
            + "wants more than told leaves (0 .. 9999): the least 0 .. 20; -9.");
        WhoseHourItIs x = Due.of("po00;po00;po00;h01-3;h12-3;h23-27;");
        for (int hour = 1; hour <= 3; hour++) {
            int wanted = hour;
            for (int lives = 0; wanted <= 9999; lives++) {
                doc.is(hour + " parts, " + (wanted - 1) + " leaves", x.heirs(hour, wanted - 1), lives);
                doc.is(hour + " parts, " + wanted + " leaves", x.heirs(hour, wanted), lives + 1);
                wanted *= 2;
            }
        }
        doc.is("one part, 9999 leaves", x.heirs(27, 9999), 14);
        doc.is("NOBODY's, 0 leaves", x.heirs(0, 0), -9);
        doc.is("NOBODY's, 9999 leaves", x.heirs(0, 9999), -9);
        doc.says(25, "-1; -4; -6 9999.");
        int[][] refused = {{28, 5, -1}, {-1, 5, -1}, {LEAST, 5, -1}, {GREATEST, 5, -1}, {1, -1, -4}, {1, LEAST, -4},
            {1, 10000, -6}, {1, GREATEST, -6}, {28, -1, -1}, {-1, 10000, -1}};
        for (int[] r : refused) {
            doc.is("heirs(" + r[0] + ", " + r[1] + ")", x.heirs(r[0], r[1]), r[2]);
        }
        doc.is("count(11)", x.count(11), 6);
        doc.is("count(14)", x.count(14), 2);
        doc.is("count(16)", x.count(16), 2);
    }

    private void give() {
        doc.says(26, "so that the sum of all NETS (those done) is greatest, of several the least; -9 without HOLDERS.");
        doc.is("without HOLDERS", new WhoseHourItIs().give(), -9);
        doc.is("one", Due.of("po00;").give(), 0);
        doc.is("of several the least", Due.of(EIGHT).give(), 0);
        doc.is("who asks less of others", Due.of("po20;po10;po00;w0r1,27,9,0;w1r1,27,9,0;w2r1,27,9,0;").give(), 2);
        doc.is("who asks as little: the least", Due.of("po10;po00;po00;w0r1,27,9,0;w1r1,27,9,0;w2r1,27,9,0;").give(), 1);
        // To 0 the others' WORKS are 5 less 9: not done, and not 4 less.
        WhoseHourItIs below = Due.of("po90;po10;w0r1,27,9,0;w1r1,27,5,0;w1r1,27,5,0;");
        doc.is("9 alone, or 8 and 5 and 5", below.give(), 1);
        doc.is("9 alone, or 3", Due.of("po90;po60;w0r1,27,9,0;w1r1,27,0,0;w1r1,27,0,0;").give(), 0);
        doc.is("the eighth", Due.of("pt00;pt00;pt00;pt00;pt00;pt00;pt00;po00;w0r1,27,9,0;w1r1,27,9,0;").give(), 7);
        WhoseHourItIs full = Due.of("po00;pt00;h10-27;w0r1,27,9,0;w1r1,27,9,0;");
        doc.is("no HOURS of NOBODY", full.give(), 0);
        doc.says(26, "the HOLDER to whom all HOURS of NOBODY should go");
        // Given HOUR 0, 2 has a part of that DAY: for HOUR 1 it can SWAP then, for which 1 wants 18 else.
        WhoseHourItIs swap = Due.of("po00;ps90;po00;h11-27;w2r2,1,9,0;");
        doc.is("it is a part like others", swap.give(), 2);
        doc.is("in mind", swap.count(2), 1);
        doc.is("in mind", swap.holder(2, 3), 0);
        doc.is("in mind", swap.cost(0), 18);
        // HOURS 5 and 9 are NOBODY's: the WORK wants both.
        WhoseHourItIs all = Due.of("pt00;pt00;po00;h10-4;h16-8;h110-27;w2s2,27,9,0;");
        doc.is("all of them", all.give(), 2);
    }

    private void together() {
        doc.says(27, "HOURS in which told two HOLDERS both have a part");
        WhoseHourItIs x = Due.of("po00;po00;po00;po00;h00-27;h10-27;h20-0;h227-27;");
        doc.is("all", x.together(0, 1), 28);
        doc.is("the first and the last", x.together(2, 0), 2);
        doc.is("none", x.together(0, 3), 0);
        WhoseHourItIs beside = Due.of("po00;po00;h00-13;h114-27;");
        doc.is("side by side", beside.together(0, 1), 0);
        Due.tell(beside, "h113-13;");
        doc.is("one", beside.together(1, 0), 1);
        doc.says(27, "-1 (one twice, too).");
        int[][] refused = {{1, 1}, {-1, 0}, {0, -1}, {4, 0}, {0, 4}, {LEAST, 0}, {0, GREATEST}};
        for (int[] r : refused) {
            doc.is("together(" + r[0] + ", " + r[1] + ")", x.together(r[0], r[1]), -1);
        }
        doc.is("count(11)", x.count(11), refused.length);
    }

    private void season() {
        doc.says(28, "SEASONS 0 .. 3 have hundredths (0 .. 300; 100)");
        WhoseHourItIs x = new WhoseHourItIs();
        for (int season = 0; season <= 3; season++) {
            doc.is("as they begin", x.season(season, 0), 100);
            doc.is("the least", x.season(season, 300), 0);
            doc.is("the greatest", x.season(season, season), 300);
        }
        doc.says(28, "-1; -4; -6 300.");
        int[][] refused = {{4, 5, -1}, {-1, 5, -1}, {LEAST, 5, -1}, {GREATEST, 5, -1}, {3, -1, -4}, {3, LEAST, -4},
            {3, 301, -6}, {3, GREATEST, -6}, {4, -1, -1}, {-1, 301, -1}};
        for (int[] r : refused) {
            doc.is("season(" + r[0] + ", " + r[1] + ")", x.season(r[0], r[1]), r[2]);
        }
        for (int season = 0; season <= 3; season++) {
            doc.is("they stay", x.season(season, 100), season);
        }
        doc.is("count(11)", x.count(11), 6);
        doc.is("count(14)", x.count(14), 2);
        doc.is("count(16)", x.count(16), 2);
    }

    private static WhoseHourItIs inOneSeason(WhoseHourItIs x, int season, int hundredths) {
        for (int i = 0; i < 4; i++) {
            x.season(i, i == season ? hundredths : 0);
        }
        return x;
    }

    private void year() {
        doc.says(29, "by which WORTHS are (cut)");
        int[][] cut = {{1, 99, 0}, {1, 100, 1}, {1, 199, 1}, {1, 200, 2}, {1, 299, 2}, {1, 300, 3}, {99, 300, 297},
            {99, 1, 0}, {99, 2, 1}, {50, 1, 0}, {50, 2, 1}, {7, 50, 3}, {0, 300, 0}, {99, 0, 0}};
        for (int[] c : cut) {
            for (int season = 0; season < 4; season++) {
                WhoseHourItIs x = Due.of("po00;w0r1,27," + c[0] + ",0;");
                doc.is(c[1] + " hundredths of " + c[0], inOneSeason(x, season, c[1]).year(), c[2]);
            }
        }
        doc.says(29, "YEAR: sum over SEASONS of all NETS (WORTHS so).");
        doc.is("no WORKS", Due.of("po00;").year(), 0);
        WhoseHourItIs x = Due.of("po00;po50;h10-27;w0r1,27,10,0;w0s1,27,6,0;");
        doc.is("four times 5 and 1", x.year(), 24);
        x.season(1, 50);
        doc.is("5 and 3 less 5: 0 and not done", x.year(), 18);
        x.season(2, 40);
        doc.is("4 and 2 less 5: not done", x.year(), 12);
        x.season(3, 300);
        doc.is("30 and 18 less 5", x.year(), 6 + 25 + 13);
        doc.is("NET stays", x.net(0), 5);
        x.strike(2);
        doc.is("WORKS that can not be", x.year(), 0);
        WhoseHourItIs most = Due.of("po00;w0r1,27,99,0;w0r1,27,99,0;w0r1,27,99,0;w0r1,27,99,0;w0r1,27,99,0;w0r1,27,99,0;");
        for (int season = 0; season < 4; season++) {
            most.season(season, 300);
        }
        doc.is("six times 297 in four", most.year(), 6 * 297 * 4);
    }

    private void draws() {
        doc.says(30, "(z without its sign's bit by 256, cut) modulo m");
        int[][] draws = {{0, 65}, {1, 0}, {96, 198}, {191, 197}, {1000, 28}, {-1, 130}, {LEAST, 65}, {GREATEST, 130}};
        WhoseHourItIs x = Due.of("po00;w0r1,27,99,0;");
        for (int[] d : draws) {
            doc.is("a DRAW below 199 with seed " + d[0], x.years(1, d[0]), d[1]);
        }
        doc.says(30, "in each WORTH of each WORK is a DRAW below twice WORTH and 1");
        WhoseHourItIs nothing = Due.of("po00;w0r1,27,0,0;");
        doc.is("below 1", nothing.years(10, 7), 0);
        Due.tell(nothing, "w0r1,27,99,0;");
        doc.is("0 is drawn, too: the other's is the second DRAW", nothing.years(1, 0), 62);
        WhoseHourItIs one = Due.of("po00;w0r1,27,1,0;");
        int[] belowThree = {2, 0, 1, 2, 0, 1, 2, 0};
        for (int seed = 0; seed < 8; seed++) {
            doc.is("below 3 with seed " + seed, one.years(1, seed), belowThree[seed]);
        }
        doc.says(30, "sum of all NETS");
        WhoseHourItIs cost = Due.of("po00;po50;h10-27;w0r1,27,10,0;");
        doc.is("5 less 5", cost.years(1, 0), 0);
        doc.is("4 less 5: not done", cost.years(1, 8), 0);
        doc.is("20 less 5", cost.years(1, 6), 15);
        cost.strike(2);
        doc.is("it can not be", cost.years(10, 6), 0);
    }

    private void years() {
        doc.says(30, "YEARS: n of them (1 .. 10) with a seed z");
        WhoseHourItIs x = Due.of("po00;w0r1,27,99,0;");
        int[] drawn = {65, 62, 25, 91, 129, 59, 142, 13, 149, 31};
        int sum = 0;
        for (int n = 1; n <= 10; n++) {
            sum += drawn[n - 1];
            doc.is("years(" + n + ", 0)", x.years(n, 0), sum);
        }
        doc.is("each call begins with its seed", x.years(1, 0), 65);
        doc.is("no WORKS", new WhoseHourItIs().years(10, 5), 0);
        x.season(0, 300);
        doc.is("SEASONS are not of it", x.years(1, 0), 65);
        doc.says(30, "YEARS. -4; -6 10.");
        doc.is("years(0, 0)", x.years(0, 0), -4);
        doc.is("years(-1, 0)", x.years(-1, 0), -4);
        doc.is("years(least, 0)", x.years(LEAST, 0), -4);
        doc.is("years(11, 0)", x.years(11, 0), -6);
        doc.is("years(greatest, 0)", x.years(GREATEST, 0), -6);
        doc.is("count(14)", x.count(14), 3);
        doc.is("count(16)", x.count(16), 2);
    }

    private void row() {
        doc.says(31, "A byte (0 .. 9) more of the ROW: how many.");
        WhoseHourItIs x = new WhoseHourItIs();
        for (int v = 0; v <= 9; v++) {
            doc.is("row(" + v + ")", x.row(v), v + 1);
        }
        doc.says(31, "A ROW (bytes; 28 at most): for each HOUR a WORK, or 9");
        WhoseHourItIs hours = Due.of("po00;w0r1,27,0,0;");
        for (int hour = 0; hour < 28; hour++) {
            for (int i = 0; i < hour; i++) {
                hours.row(9);
            }
            doc.is("the byte of HOUR " + hour, hours.row(8), hour + 1);
            doc.is("is judged as HOUR " + hour, hours.judge(0), hour);
        }
        doc.says(31, "-4; -6 (9; 28, too).");
        doc.is("row(-1)", x.row(-1), -4);
        doc.is("row(least)", x.row(LEAST), -4);
        doc.is("row(10)", x.row(10), -6);
        doc.is("row(greatest)", x.row(GREATEST), -6);
        doc.is("count(5)", x.count(5), 10);
        for (int bytes = 11; bytes <= 28; bytes++) {
            doc.is("row(9)", x.row(9), bytes);
        }
        doc.is("a 29th", x.row(9), -6);
        doc.is("a 29th", x.row(0), -6);
        doc.is("a 29th of 10", x.row(10), -6);
        doc.is("a 29th of -1", x.row(-1), -4);
        doc.is("count(5)", x.count(5), 28);
        doc.is("count(14)", x.count(14), 3);
        doc.is("count(16)", x.count(16), 5);
    }

    private void judged(String what, WhoseHourItIs x, String row, int want) {
        tellRow(x, row);
        doc.is(what + ": judge(0) of \"" + row + "\"", x.judge(0), want);
    }

    private void done(String what, WhoseHourItIs x, String row, int want) {
        tellRow(x, row);
        doc.is(what + ": judge(1) of \"" + row + "\"", x.judge(1), want);
    }

    private static void tellRow(WhoseHourItIs x, String row) {
        for (char v : row.toCharArray()) {
            x.row(v - '0');
        }
    }

    private void judgedHours() {
        doc.says(32, "the first HOUR that is worked though it may not be (no such WORK; a part gives no leave; later than BY)");
        String idle = "999999999999999999999999999";
        WhoseHourItIs x = Due.of("po00;pt00;po90;h13-3;h24-4;w0r1,5,0,0;w1r1,27,0,0;");
        judged("nothing worked", x, idle + "9", -9);
        judged("NOBODY's HOURS", x, "000", -9);
        judged("no leave", x, "0000", 3);
        judged("no leave needed of oneself", x, "9991", -9);
        judged("leave for a price above WORTH", x, "99990", -9);
        judged("at BY", x, "999990", -9);
        judged("later than BY", x, "9999990", 6);
        judged("the first of several", x, "9990990", 3);
        judged("the last HOUR", x, idle + "1", -9);
        judged("the last HOUR, later than BY", x, idle + "0", 27);
        judged("the first WORK that is not", x, "92", 1);
        judged("8 is no WORK", x, "998", 2);
        x.strike(4);
        judged("on STRIKE", x, "99990", 4);
        x.bell(4, 0);
        judged("a BELL's", x, "99990", -9);
        judged("no WORKS at all", new WhoseHourItIs(), "0", 0);
        judged("no WORKS at all", new WhoseHourItIs(), "9", -9);
        WhoseHourItIs six = Due.of("po00;w0r1,0,0,0;w0r1,1,0,0;w0r1,2,0,0;w0r1,3,0,0;w0r1,4,0,0;w0r1,5,0,0;");
        judged("six WORKS", six, "012345", -9);
        judged("a seventh", six, "0123456", 6);
        judged("the sixth, later than BY", six, "9999995", 6);
    }

    private void notDone() {
        doc.says(32, "the first WORK whose HOURS (all in the ROW) are not as it wants them (how many; in a row, or of unlike DAYS); -9.");
        WhoseHourItIs row = Due.of("po00;w0r3,27,0,0;");
        done("two of three", row, "00", 0);
        done("three", row, "000", -9);
        done("four", row, "0000", 0);
        done("a gap", row, "0090", 0);
        done("a gap", row, "0900", 0);
        done("over a DAY's end", row, "99000", -9);
        done("three, and one more", row, "00090", 0);
        done("the last three", row, "9999999999999999999999999000", -9);
        WhoseHourItIs spread = Due.of("po00;w0s2,27,0,0;");
        done("one of two", spread, "0", 0);
        done("of one DAY", spread, "00", 0);
        done("of one DAY, its first and last", spread, "0990", 0);
        done("of unlike DAYS, side by side", spread, "99900", -9);
        done("of unlike DAYS", spread, "0999999990", -9);
        done("three of unlike DAYS", spread, "099909990", 0);
        done("two of three of one DAY", spread, "00990", 0);
        done("the first and the last", spread, "0999999999999999999999999990", -9);
        WhoseHourItIs one = Due.of("po00;w0r1,0,0,0;w0s1,0,0,0;");
        done("both", one, "01", -9);
        done("the first is not", one, "91", 0);
        done("the second is not", one, "09", 1);
        done("neither is", one, "9", 0);
        done("later than BY is no matter of it", one, "9999901", -9);
        done("another WORK is no matter of it", one, "018", -9);
        WhoseHourItIs six = Due.of("po00;w0r6,27,0,0;w0s6,27,0,0;");
        done("six in a row, six of unlike DAYS", six, "0000001919991999199919991", -9);
        done("six in a row, five of unlike DAYS", six, "000000191999199919991", 1);
        done("six in a row, two of six of one DAY", six, "0000001199991999199919991", 1);
        done("six in a row, seven of unlike DAYS", six, "1000000119991999199919991999", 1);
        done("no WORKS", new WhoseHourItIs(), "0123", -9);
    }

    private void judge() {
        doc.says(32, "JUDGED (what 0), NOT DONE (1)");
        WhoseHourItIs both = Due.of("po00;w0r1,27,0,0;w0r2,0,0,0;");
        judged("HOUR 2 is later than BY", both, "991", 2);
        done("WORK 0 has none", both, "991", 0);
        judged("every HOUR may be worked", both, "09", -9);
        done("WORK 1 has none", both, "09", 1);
        judged("HOUR 2 is later than BY", both, "0911", 2);
        done("though later than BY", both, "0911", -9);
        doc.says(32, "-9 (the ROW has none then; HOURS behind it are not worked).");
        WhoseHourItIs x = Due.of("po00;w0r1,0,0,0;");
        doc.is("an empty ROW", x.judge(0), -9);
        doc.is("an empty ROW", x.judge(1), 0);
        judged("right", x, "0", -9);
        doc.is("count(5)", x.count(5), 0);
        judged("wrong", x, "90", 1);
        doc.is("count(5)", x.count(5), 0);
        done("done", x, "0", -9);
        doc.is("count(5)", x.count(5), 0);
        doc.is("what was in it is not any more", x.judge(1), 0);
        judged("a long one", x, "9999900000", 5);
        judged("a short one behind it", x, "9", -9);
        judged("its bytes behind are not worked", x, "99", -9);
        doc.says(32, "-2 (it stays).");
        tellRow(x, "90");
        doc.is("judge(2)", x.judge(2), -2);
        doc.is("judge(-1)", x.judge(-1), -2);
        doc.is("judge(least)", x.judge(LEAST), -2);
        doc.is("judge(greatest)", x.judge(GREATEST), -2);
        doc.is("count(5)", x.count(5), 2);
        doc.is("count(12)", x.count(12), 4);
        doc.is("judge(0)", x.judge(0), 1);
    }

    private void image() {
        doc.says(33, "THE IMAGE is taken: how many HOLDERS.");
        doc.is("none", new WhoseHourItIs().image(), 0);
        doc.is("eight", Due.of(EIGHT).image(), 8);
        WhoseHourItIs x = Due.of("po10;");
        doc.is("one", x.image(), 1);
        x.price(0, 2);
        Due.tell(x, "po30;");
        doc.is("another one", x.image(), 2);
        x.price(0, 3);
        doc.is("the last one is it", x.on(), 2);
        doc.is("PRICE as then", x.holder(0, 1), 2);
    }

    private void on() {
        doc.says(34, "ON from it: how many HOLDERS. -3 there is none.");
        WhoseHourItIs x = new WhoseHourItIs();
        doc.is("none", x.on(), -3);
        Due.tell(x, "po00;");
        doc.is("none", x.on(), -3);
        doc.is("count(13)", x.count(13), 2);
        doc.is("HOLDERS", x.count(0), 1);
        WhoseHourItIs y = new WhoseHourItIs();
        y.image();
        Due.tell(y, EIGHT + "h00-0;");
        doc.is("one of nothing", y.on(), 0);
        doc.is("HOLDERS", y.count(0), 0);
        doc.is("HOURS of NOBODY", y.count(2), 28);
        doc.is("room for eight again", Due.tell(y, EIGHT), 8);
        doc.is("who come are not WED, have no HOURS", y.wedTo(0) + y.holder(0, 3), -9);
        doc.is("as often as wanted", y.on(), 0);
        doc.is("as often as wanted", y.on(), 0);
        doc.says(34, "ON from it all is as then.");
        WhoseHourItIs z = Due.of("po10;po20;po30;h10-3;h20-3;w0r1,3,9,1;");
        z.marry(0, 1);
        z.strike(6);
        z.bell(3, 1);
        z.season(0, 0);
        z.image();
        z.marry(1, 2);
        z.strike(1);
        z.bell(-1, 9);
        z.season(0, 300);
        z.price(2, 9);
        Due.tell(z, "po90;h30-27;w3s6,27,99,9;");
        doc.is("on()", z.on(), 3);
        doc.is("PRICE", z.holder(2, 1), 3);
        doc.is("WORKS", z.count(1), 1);
        doc.is("parts of HOUR 0", z.hour(0, -1), 2);
        doc.is("HOURS of NOBODY", z.count(2), 24);
        doc.is("BELL and its SORT", z.one(0), 8);
        doc.is("WED", z.wedTo(0), 1);
        doc.is("WED", z.wedTo(2), -9);
        doc.is("STRIKE", z.strike(0), 6);
        doc.is("BELL", z.bell(-1, 0), 3);
        doc.is("SEASON", z.season(0, 1), 0);
    }

    private void count() {
        doc.says(35, "0 HOLDERS, 1 WORKS, 2 HOURS of NOBODY, 3 all parts, 4 those on STRIKE, 5 bytes of the ROW, 6 bytes on THE TAPE");
        WhoseHourItIs x = Due.of(EIGHT + "h00-27;h10-27;h20-27;w0r1,0,0,0;w0r1,0,0,0;w0r1,0,0,0;w0r1,0,0,0;"
            + "w0r1,0,0,0;w0r1,0,0,0;");
        x.strike(255);
        for (int i = 0; i < 28; i++) {
            x.row(9);
        }
        for (int i = 0; i < 8; i++) {
            x.feed(8, 0);
        }
        int[] most = {8, 6, 0, 84, 8, 28, 64};
        for (int what = 0; what < most.length; what++) {
            doc.is("the most of count(" + what + ")", x.count(what), most[what]);
            doc.is("the least of count(" + what + ")", new WhoseHourItIs().count(what), what == 2 ? 28 : 0);
        }
        doc.says(35, "-9 for another what.");
        for (int what : new int[] {-1, 7, 8, 9, 10, 17, 18, LEAST, GREATEST}) {
            doc.is("count(" + what + ")", x.count(what), -9);
        }
        for (int what = 11; what <= 16; what++) {
            doc.is("it is no refusal: count(" + what + ")", x.count(what), 0);
        }
    }

    private void countOfRefusals() {
        doc.says(35, "11 .. 16 REFUSALS -1 .. -6.");
        WhoseHourItIs x = new WhoseHourItIs();
        int[] want = new int[7];
        for (int i = 1; i <= 3; i++) {
            for (int again = 0; again < i; again++) {
                x.one(0);
                want[1]++;
                x.judge(2);
                x.judge(2);
                want[2] += 2;
                x.on();
                want[3]++;
                x.row(-1);
                x.row(-1);
                x.row(-1);
                want[4] += 3;
                x.row(10);
                want[6]++;
            }
            for (int number = 1; number <= 6; number++) {
                doc.is("count(" + (10 + number) + ")", x.count(10 + number), want[number]);
            }
        }
        x.image();
        x.on();
        doc.is("not of THE IMAGE", x.count(13), want[3]);
    }
}
