/** Edges that the document names for promises 1 to 6, and for the texts of towns. */
public final class TownEdges {
    private static final int LEAST = Integer.MIN_VALUE;
    private static final int GREATEST = Integer.MAX_VALUE;
    private static final String EIGHT = "po00;po00;po00;po00;po00;po00;po00;po00;";

    private final Sentences doc = new Sentences();

    public static void main(String[] args) {
        TownEdges t = new TownEdges();
        t.newObject();
        t.useOfAnObject();
        t.feed();
        t.room();
        t.tapeBecomesTown();
        t.textOf64Bytes();
        t.holderStatements();
        t.hourStatements();
        t.workStatements();
        t.firstByteThatCanNotBe();
        t.end();
        t.firstStatementThatIsNotAsItMustBe();
        t.numbersOutOfRange();
        t.holdersNotThere();
        t.partsThatCanNotBe();
        t.noRoom();
        t.allOrNothing();
        t.holder();
        t.income();
        t.hour();
        t.work();
        t.doc.end(1, 6);
    }

    private void newObject() {
        doc.says(1, "HOURS of NOBODY.");
        WhoseHourItIs x = new WhoseHourItIs();
        for (int hour = 0; hour < 28; hour++) {
            doc.is("hour(" + hour + ", -1)", x.hour(hour, -1), 0);
            doc.is("hour(" + hour + ", 0)", x.hour(hour, 0), -9);
        }
        int[] counts = {0, 0, 28, 0, 0, 0, 0};
        for (int what = 0; what < counts.length; what++) {
            doc.is("count(" + what + ")", x.count(what), counts[what]);
        }
        for (int what = 11; what <= 16; what++) {
            doc.is("count(" + what + ")", x.count(what), 0);
        }
        doc.is("strike(0)", x.strike(0), 0);
        doc.is("bell(-1, 0)", x.bell(-1, 0), -9);
        doc.is("on()", x.on(), -3);
    }

    private void useOfAnObject() {
        doc.says(1, "An object is used for at most 512 calls after it has been made");
        WhoseHourItIs x = new WhoseHourItIs();
        for (int i = 0; i < 511; i++) {
            x.one(0);
        }
        doc.is("call 512: count(11)", x.count(11), 511);
        WhoseHourItIs y = new WhoseHourItIs();
        for (int i = 0; i < 511; i++) {
            y.feed(1, 'p');
        }
        doc.is("call 512: count(16)", y.count(16), 511 - 64);
    }

    private void feed() {
        doc.says(2, "n (1 .. 8) bytes come");
        WhoseHourItIs x = new WhoseHourItIs();
        doc.is("feed(0, 0)", x.feed(0, 0), -4);
        doc.is("feed(-1, 0)", x.feed(-1, 0), -4);
        doc.is("feed(least, 0)", x.feed(LEAST, 0), -4);
        doc.is("feed(9, 0)", x.feed(9, 0), -6);
        doc.is("feed(greatest, 0)", x.feed(GREATEST, 0), -6);
        doc.is("nothing came", x.count(6), 0);
        doc.is("feed(1, 0)", x.feed(1, 0), 1);
        doc.is("feed(8, 0)", x.feed(8, 0), 9);
        doc.says(2, "the lowest first");
        WhoseHourItIs y = new WhoseHourItIs();
        y.feed(2, 'p' | 'o' << 8);
        y.feed(3, '8' | '9' << 8 | ';' << 16);
        doc.is("\"po\", \"89;\"", y.town(), 1);
        doc.is("PRICE, the lower one", y.holder(0, 1), 8);
        doc.is("FOR, behind it", y.holder(0, 2), 9);
        y.feed(1, 'p' | 'x' << 8);
        y.feed(4, 'o' | '0' << 8 | '0' << 16 | (long) ';' << 24 | -1L << 32);
        doc.is("those above n do not come", y.town(), 1);
        doc.says(2, "how many THE TAPE has");
        WhoseHourItIs z = new WhoseHourItIs();
        for (int bytes = 1; bytes <= 64; bytes++) {
            doc.is("feed(1, -1)", z.feed(1, -1), bytes);
            doc.is("count(6)", z.count(6), bytes);
        }
    }

    private void room() {
        doc.says(2, "-6 (n; above 64)");
        for (int room = 0; room <= 8; room++) {
            WhoseHourItIs x = new WhoseHourItIs();
            for (int bytes = 0; bytes < 64 - room; bytes++) {
                x.feed(1, 0);
            }
            for (int n = room + 1; n <= 9; n++) {
                doc.is(n + " bytes into a room of " + room, x.feed(n, 0), -6);
            }
            doc.is("count(6)", x.count(6), 64 - room);
            doc.is("count(16)", x.count(16), 9 - room);
            if (room > 0) {
                doc.is("as many as there is room for", x.feed(room, 0), 64);
            }
        }
    }

    private void tapeBecomesTown() {
        doc.says(3, "THE TAPE becomes a TOWN, and has none");
        WhoseHourItIs x = new WhoseHourItIs();
        Due.tell(x, "po00;");
        doc.is("count(6)", x.count(6), 0);
        doc.is("a second town of it", x.town(), -1000);
        doc.is("a fault of kind 1", Due.tell(x, "po00;p"), -1006);
        doc.is("count(6) behind it", x.count(6), 0);
        doc.is("a fault of kind 2", Due.tell(x, "h90-0;"), -2000);
        doc.is("count(6) behind it", x.count(6), 0);
        doc.is("what comes next begins at place 0", Due.tell(x, "po00;x"), -1005);
        for (int i = 1; i <= 8; i++) {
            doc.is("room for 64 again", x.feed(8, 0), 8 * i);
        }
        doc.says(3, "how many STATEMENTS");
        doc.town("", "po00;", 1);
        doc.town("", EIGHT + "h00-0;h01-1;h02-2;h03-3;", 12);
        doc.says(3, "the FAULT (nothing is counted)");
        WhoseHourItIs y = Due.of("po00;");
        for (String text : new String[] {"", "x", "po00;p", "h10-0;", "h00-28;", EIGHT}) {
            doc.is("a fault: \"" + text + "\"", Due.tell(y, text) <= -1000 ? 1 : 0, 1);
        }
        for (int what = 11; what <= 16; what++) {
            doc.is("count(" + what + ")", y.count(what), 0);
        }
    }

    private void textOf64Bytes() {
        doc.says(3, "A TOWN is read from a TEXT (64 bytes at most)");
        String of58 = "po00;po00;h00-0;h01-1;h02-2;h03-3;h04-4;h05-5;h06-6;h07-7;";
        doc.town("", of58 + "h08-8;", 11);
        doc.town("", of58 + "h08-8x", -1063);
        doc.town("", of58 + "h08-08", -1064);
        doc.town("", of58 + "h07-8;", -2058);
    }

    private void holderStatements() {
        doc.says(3, "\"p\" a letter of a KIND, PRICE (a digit), FOR (a digit): a HOLDER more (8 at most)");
        WhoseHourItIs x = Due.of("po00;pt99;");
        doc.is("the least PRICE", x.holder(0, 1), 0);
        doc.is("the least FOR", x.holder(0, 2), 0);
        doc.is("the greatest PRICE", x.holder(1, 1), 9);
        doc.is("the greatest FOR", x.holder(1, 2), 9);
        doc.town("", "p00;", -1001);
        doc.town("", "po0;", -1003);
        doc.town("", "po000;", -1004);
        doc.town("", EIGHT, 8);
        doc.town("", EIGHT + "po00;", -2040);
        doc.town(EIGHT, "po00;", -2000);
        for (char letter = 0; letter < 256; letter++) {
            doc.town("", "p" + letter + "00;", "oysjknt".indexOf(letter) >= 0 ? 1 : -1001);
        }
    }

    private void hourStatements() {
        doc.says(3, "\"h\" a HOLDER (a digit) HOUR \"-\" HOUR (1 or 2 digits each)");
        doc.town("po00;", "h00-1;", 1);
        doc.town("po00;", "h000-01;", 1);
        doc.town("po00;", "h0-1;", -1002);
        doc.town("po00;", "h0000-1;", -1004);
        doc.town("po00;", "h00-;", -1004);
        doc.town("po00;", "h00-001;", -1006);
        doc.town("po00;", "h00;", -1003);
        doc.says(3, "it has a part of all these (first to last)");
        for (int first = 0; first < 28; first += 3) {
            for (int last = first; last < 28; last++) {
                WhoseHourItIs x = Due.of("po00;h0" + first + "-" + last + ";");
                doc.is("how many of " + first + " to " + last, x.holder(0, 3), last - first + 1);
                doc.is("the first", x.hour(first, -1), 1);
                doc.is("the last", x.hour(last, -1), 1);
                doc.is("the one ahead", first == 0 ? 0 : x.hour(first - 1, -1), 0);
                doc.is("the one behind", last == 27 ? 0 : x.hour(last + 1, -1), 0);
            }
        }
        doc.says(3, "Numbers may begin with 0.");
        WhoseHourItIs y = Due.of("po00;h003-09;w0r1,07,05,0;w0r1,00,00,0;");
        doc.is("HOURS 03 to 09", y.holder(0, 3), 7);
        doc.is("BY 07", y.work(0, 3), 7);
        doc.is("WORTH 05", y.work(0, 4), 5);
        doc.is("BY 00", y.work(1, 3), 0);
        doc.is("WORTH 00", y.work(1, 4), 0);
    }

    private void workStatements() {
        doc.says(3, "\"w\" a HOLDER (a digit: who does it), \"r\" or \"s\"");
        doc.town("po00;", "w0r1,1,1,1;", 1);
        doc.town("po00;", "w0s1,1,1,1;", 1);
        doc.town("po00;", "w0q1,1,1,1;", -1002);
        doc.town("po00;", "w0t1,1,1,1;", -1002);
        doc.town("po00;", "wr1,1,1,1;", -1001);
        doc.town("po00;", "w00r1,1,1,1;", -1002);
        doc.says(3, "LENGTH (a digit, 1 .. 6)");
        for (int length = 0; length < 10; length++) {
            doc.town("po00;", "w0r" + length + ",27,1,1;", length >= 1 && length <= 6 ? 1 : -2000);
            doc.town("po00;", "w0s" + length + ",27,1,1;", length >= 1 && length <= 6 ? 1 : -2000);
        }
        doc.town("po00;", "w0r01,27,1,1;", -1004);
        doc.town("po00;", "w0r,27,1,1;", -1003);
        doc.says(3, "\",\" BY (1 or 2 digits), \",\" WORTH (1 or 2 digits), \",\" SORT (a digit)");
        doc.town("po00;", "w0r1,,1,1;", -1005);
        doc.town("po00;", "w0r1,001,1,1;", -1007);
        doc.town("po00;", "w0r1,1,,1;", -1007);
        doc.town("po00;", "w0r1,1,001,1;", -1009);
        doc.town("po00;", "w0r1,1,1,;", -1009);
        doc.town("po00;", "w0r1,1,1,01;", -1010);
        WhoseHourItIs x = Due.of("po00;w0r1,0,0,0;w0r1,27,99,9;");
        doc.is("the least WORTH", x.work(0, 4), 0);
        doc.is("the least SORT", x.work(0, 5), 0);
        doc.is("the greatest WORTH", x.work(1, 4), 99);
        doc.is("the greatest SORT", x.work(1, 5), 9);
        doc.says(3, "a WORK more (6 at most)");
        WhoseHourItIs six = new WhoseHourItIs();
        doc.is("five", Due.tell(six, "po00;w0r1,0,0,0;w0r1,0,0,0;w0r1,0,0,0;w0r1,0,0,0;w0r1,0,0,0;"), 6);
        doc.is("seven", Due.tell(six, "w0s1,0,0,0;w0s1,0,0,0;"), -2011);
        doc.is("six", Due.tell(six, "w0s1,0,0,0;"), 1);
        doc.is("seven", Due.tell(six, "w0s1,0,0,0;"), -2000);
        doc.is("count(1)", six.count(1), 6);
    }

    private void firstByteThatCanNotBe() {
        doc.says(3, "kind 1 the place of the first byte with which no TOWN can go on");
        String text = "po12;h00-27;w0r1,27,99,0;";
        for (int place = 0; place < text.length(); place++) {
            for (char wrong : new char[] {'x', 0, ' ', '/', ':', 255, (char) (text.charAt(place) + 128)}) {
                String told = text.substring(0, place) + wrong + text.substring(place + 1);
                doc.town("", told, -1000 - place);
            }
        }
        doc.town("", text, 3);
        doc.town("", text + ";", -1025);
        doc.town("", ";" + text, -1000);
        doc.says(3, "else kind 2");
        doc.town("", "h90-0;x", -1006);
        doc.town("", "w0r0,99,1,1;po00;h03-2;po", -1025);
        doc.town("", EIGHT + "po00;q", -1045);
    }

    private void end() {
        doc.says(3, "(the end, if something lacks)");
        String text = "po12;h00-27;w0r1,27,99,0;";
        for (int length = 0; length < text.length(); length++) {
            boolean whole = length == 5 || length == 12;
            doc.town("", text.substring(0, length), whole ? length / 5 : -1000 - length);
        }
        doc.says(3, "STATEMENTS, each with \";\" behind");
        doc.town("", "po00", -1004);
        doc.town("", "po00po00;", -1004);
        doc.town("", "po00;;", -1005);
        doc.says(3, "At least one STATEMENT.");
        doc.town("", "", -1000);
        doc.town("po00;", "", -1000);
    }

    private void firstStatementThatIsNotAsItMustBe() {
        doc.says(3, "the place of the letter of the first STATEMENT that is not as it must be");
        doc.town("po00;", "h90-0;", -2000);
        doc.town("po00;", "h01-1;h90-0;h02-2;", -2006);
        doc.town("po00;", "h90-0;h28-9;", -2000);
        doc.town("po00;", "h01-1;w0r1,1,1,1;w0r7,1,1,1;h01-1;", -2017);
    }

    private void numbersOutOfRange() {
        doc.says(3, "a number out of range: HOURS 0 .. 27, BY 0 .. 27");
        doc.town("po00;", "h00-27;", 1);
        doc.town("po00;", "h027-27;", 1);
        doc.town("po00;", "h00-28;", -2000);
        doc.town("po00;", "h028-28;", -2000);
        doc.town("po00;", "h099-99;", -2000);
        for (int by = 0; by < 100; by++) {
            doc.town("po00;", "w0r1," + by + ",1,1;", by <= 27 ? 1 : -2000);
        }
    }

    private void holdersNotThere() {
        doc.says(3, "a HOLDER that is not there ahead of it");
        doc.town("", "h00-0;po00;", -2000);
        doc.town("", "po00;h00-0;", 2);
        doc.town("", "w0r1,1,1,1;po00;", -2000);
        doc.town("", "po00;w0r1,1,1,1;", 2);
        doc.town("po00;", "h10-0;", -2000);
        doc.town("po00;", "w1r1,1,1,1;", -2000);
        doc.town(EIGHT, "h70-0;w7r1,1,1,1;", 2);
        doc.town(EIGHT, "h80-0;", -2000);
        doc.town(EIGHT, "w9r1,1,1,1;", -2000);
    }

    private void partsThatCanNotBe() {
        doc.says(3, "HOURS the wrong way round");
        doc.town("po00;", "h05-4;", -2000);
        doc.town("po00;", "h027-0;", -2000);
        doc.town("po00;", "h05-5;", 1);
        doc.says(3, "a HOLDER that has a part of one of them");
        String held = "po00;po00;h05-9;";
        doc.town(held, "h00-4;h010-27;", 2);
        doc.town(held, "h00-5;", -2000);
        doc.town(held, "h09-10;", -2000);
        doc.town(held, "h07-7;", -2000);
        doc.town(held, "h00-27;", -2000);
        doc.town(held, "h15-9;", 1);
        doc.town("po00;", "h00-3;h03-4;", -2006);
        doc.says(3, "or three there");
        String three = "po00;po00;po00;po00;h05-5;h15-5;";
        doc.town(three, "h25-5;", 1);
        doc.town(three, "h25-5;h35-5;", -2006);
        doc.town(three, "h25-5;h30-5;", -2006);
        doc.town(three, "h25-5;h35-9;", -2006);
        doc.town(three, "h25-5;h30-4;h36-27;", 3);
        doc.says(3, "An HOUR has up to 3 HOLDERS; without any it is NOBODY's.");
        WhoseHourItIs x = Due.of(three + "h25-5;");
        doc.is("hour(5, -1)", x.hour(5, -1), 3);
        doc.is("HOURS of NOBODY", x.count(2), 27);
        doc.is("all parts", x.count(3), 3);
        Due.tell(x, "h34-4;");
        doc.is("HOURS of NOBODY", x.count(2), 26);
        WhoseHourItIs full = Due.of("po00;po00;po00;h00-27;h10-27;h20-27;");
        doc.is("HOURS of NOBODY", full.count(2), 0);
        doc.is("all parts", full.count(3), 84);
    }

    private void noRoom() {
        doc.says(3, "no room for more): -2000 less the place");
        doc.town(EIGHT, "h00-0;po00;h01-1;", -2006);
        WhoseHourItIs x = Due.of("po00;w0r1,0,0,0;w0r1,0,0,0;w0r1,0,0,0;w0r1,0,0,0;w0r1,0,0,0;w0r1,0,0,0;");
        doc.is("a seventh WORK", Due.tell(x, "h00-0;w0r1,0,0,0;"), -2006);
    }

    private void allOrNothing() {
        doc.says(3, "Without FAULT all of it comes, with one nothing.");
        String text = "po12;h11-3;w1s2,20,30,4;";
        WhoseHourItIs x = Due.of("po00;h00-0;");
        for (String behind : new String[] {"x", "p", "h11-1;", "h20-0;", "w1r0,1,1,1;"}) {
            doc.is("a fault", Due.tell(x, text + behind) <= -1000 ? 1 : 0, 1);
            doc.is("holders", x.count(0), 1);
            doc.is("works", x.count(1), 0);
            doc.is("parts", x.count(3), 1);
            doc.is("hour(1, -1)", x.hour(1, -1), 0);
        }
        doc.is("no fault", Due.tell(x, text), 3);
        doc.is("holders", x.count(0), 2);
        doc.is("works", x.count(1), 1);
        doc.is("parts", x.count(3), 4);
        doc.is("hour(3, 0)", x.hour(3, 0), 1);
        doc.is("what a fault left has no part twice", x.hour(1, -1), 1);
    }

    private void holder() {
        WhoseHourItIs x = Due.of("po01;py19;ps28;pj37;pk46;pn55;pt94;h00-27;h127-27;");
        doc.says(4, "0 KIND (0 o, 1 y, 2 s, 3 j, 4 k, 5 n, 6 t)");
        for (int holder = 0; holder < 7; holder++) {
            doc.is("holder(" + holder + ", 0)", x.holder(holder, 0), holder);
        }
        doc.says(4, "1 PRICE, 2 FOR");
        int[] prices = {0, 1, 2, 3, 4, 5, 9};
        int[] sorts = {1, 9, 8, 7, 6, 5, 4};
        for (int holder = 0; holder < 7; holder++) {
            doc.is("holder(" + holder + ", 1)", x.holder(holder, 1), prices[holder]);
            doc.is("holder(" + holder + ", 2)", x.holder(holder, 2), sorts[holder]);
        }
        doc.says(4, "3 how many HOURS it has a part of");
        doc.is("all", x.holder(0, 3), 28);
        doc.is("one", x.holder(1, 3), 1);
        doc.is("none", x.holder(2, 3), 0);
        doc.says(4, "-1; -2.");
        doc.is("holder(6, 4)", x.holder(6, 4), 0);
        doc.is("holder(7, 0)", x.holder(7, 0), -1);
        doc.is("holder(-1, 0)", x.holder(-1, 0), -1);
        doc.is("holder(0, -1)", x.holder(0, -1), -2);
        doc.is("holder(0, 5)", x.holder(0, 5), -2);
        doc.is("holder(7, 5)", x.holder(7, 5), -1);
        doc.is("holder(least, 0)", x.holder(LEAST, 0), -1);
        doc.is("holder(0, greatest)", x.holder(0, GREATEST), -2);
        doc.is("count(11)", x.count(11), 4);
        doc.is("count(12)", x.count(12), 3);
        doc.is("no holders", new WhoseHourItIs().holder(0, 0), -1);
        doc.is("the eighth", Due.of(EIGHT).holder(7, 1), 0);
        doc.is("a ninth", Due.of(EIGHT).holder(8, 1), -1);
    }

    private void income() {
        doc.says(4, "INCOME of a HOLDER: what it has of all COSTS of ONE of WORKS whose NET is 0 or more.");
        WhoseHourItIs x = Due.of("po00;po40;po30;h10-27;h20-27;w0r1,27,7,0;");
        doc.is("NET 0", x.net(0), 0);
        doc.is("its part of it", x.holder(1, 4), 4);
        doc.is("the other's part of it", x.holder(2, 4), 3);
        x.price(2, 4);
        doc.is("NET below 0", x.net(0), -9);
        doc.is("nothing", x.holder(1, 4), 0);
        doc.is("nothing", x.holder(2, 4), 0);
        x.price(2, 2);
        doc.is("NET 1", x.net(0), 1);
        doc.is("its part of it", x.holder(2, 4), 2);
        Due.tell(x, "w0s6,27,99,0;w2s2,27,99,0;");
        doc.is("all WORKS", x.holder(1, 4), 4 + 24 + 8);
        doc.is("not of its own WORK", x.holder(2, 4), 2 + 12);
        x.strike(2);
        doc.is("a WORK that can not be", x.holder(2, 4), 0);
        WhoseHourItIs most = Due.of("po00;pj90;po00;po00;h10-27;h20-27;h30-27;w0s6,27,99,0;");
        doc.is("six JOINT parts of 27 are above 99", most.holder(1, 4), 0);
    }

    private void hour() {
        WhoseHourItIs x = Due.of("po00;po00;po00;h23-27;h03-3;h13-27;");
        doc.says(5, "The i-th HOLDER of an HOUR (as they came; i -1: how many); -9 none such.");
        doc.is("how many", x.hour(3, -1), 3);
        doc.is("the first to come", x.hour(3, 0), 2);
        doc.is("the second", x.hour(3, 1), 0);
        doc.is("the third", x.hour(3, 2), 1);
        doc.is("a fourth", x.hour(3, 3), -9);
        doc.is("behind all", x.hour(3, GREATEST), -9);
        doc.is("two", x.hour(4, -1), 2);
        doc.is("a third of two", x.hour(4, 2), -9);
        doc.is("NOBODY's", x.hour(2, -1), 0);
        doc.is("NOBODY's", x.hour(2, 0), -9);
        doc.says(5, "A WEEK has 28 HOURS");
        WhoseHourItIs week = Due.of("po00;h00-27;");
        for (int hour = -2; hour < 30; hour++) {
            doc.is("HOUR " + hour, week.hour(hour, 0), hour < 0 || hour > 27 ? -1 : 0);
        }
        doc.says(5, "-1; -4 i.");
        doc.is("hour(0, -1)", x.hour(0, -1), 0);
        doc.is("hour(27, -1)", x.hour(27, -1), 2);
        doc.is("hour(28, -1)", x.hour(28, -1), -1);
        doc.is("hour(-1, -1)", x.hour(-1, -1), -1);
        doc.is("hour(0, -2)", x.hour(0, -2), -4);
        doc.is("hour(0, least)", x.hour(0, LEAST), -4);
        doc.is("hour(28, -2)", x.hour(28, -2), -1);
        doc.is("count(11)", x.count(11), 3);
        doc.is("count(14)", x.count(14), 2);
    }

    private void work() {
        WhoseHourItIs x = Due.of("po00;po00;w1s6,27,99,9;w0r1,0,0,0;");
        doc.says(6, "0 who does it, 1 1 spread, 2 LENGTH, 3 BY, 4 WORTH, 5 SORT.");
        int[] greatest = {1, 1, 6, 27, 99, 9};
        int[] least = {0, 0, 1, 0, 0, 0};
        for (int what = 0; what < 6; what++) {
            doc.is("work(0, " + what + ")", x.work(0, what), greatest[what]);
            doc.is("work(1, " + what + ")", x.work(1, what), least[what]);
        }
        doc.says(6, "-1; -2.");
        doc.is("work(2, 0)", x.work(2, 0), -1);
        doc.is("work(-1, 0)", x.work(-1, 0), -1);
        doc.is("work(0, 6)", x.work(0, 6), -2);
        doc.is("work(0, -1)", x.work(0, -1), -2);
        doc.is("work(2, 6)", x.work(2, 6), -1);
        doc.is("work(least, 0)", x.work(LEAST, 0), -1);
        doc.is("work(0, greatest)", x.work(0, GREATEST), -2);
        doc.is("count(11)", x.count(11), 4);
        doc.is("count(12)", x.count(12), 3);
        doc.is("no works", Due.of("po00;").work(0, 0), -1);
    }
}
