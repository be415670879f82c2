import java.util.Random;

/** Runs of calls by seeds, answered by the program and by Plain: the answers must be the same. */
public final class AgainstPlain {
    private static final int[] WEIGHTS = weights();
    private final Due due;
    private final Random random;
    private final int run;
    private final WhoseHourItIs x = new WhoseHourItIs();
    private final Plain y = new Plain();
    private int call;

    private AgainstPlain(Due due, int run) {
        this.due = due;
        this.run = run;
        this.random = new Random(run);
    }

    public static void main(String[] args) {
        Due due = new Due();
        int runs = args.length > 0 ? Integer.parseInt(args[0]) : 300;
        for (int run = 0; run < runs; run++) {
            new AgainstPlain(due, run).go();
        }
        due.end();
    }

    private static int[] weights() {
        int[] w = new int[35];
        java.util.Arrays.fill(w, 6);
        w[1] = 30;
        w[17] = 1;
        w[24] = 3;
        w[30] = 30;
        return w;
    }

    private void go() {
        if (random.nextInt(4) > 0) {
            settle();
        }
        for (int i = 0; i < 120; i++) {
            step(kind());
        }
        for (int what = -1; what < 18; what++) {
            is("count(" + what + ")", x.count(what), y.count(what));
        }
    }

    private void is(String name, int got, int want) {
        due.is("run " + run + ", call " + call + ": " + name, got, want);
    }

    private int kind() {
        int sum = 0;
        for (int w : WEIGHTS) {
            sum += w;
        }
        int at = random.nextInt(sum);
        for (int i = 0; i < WEIGHTS.length; i++) {
            at -= WEIGHTS[i];
            if (at < 0) {
                return i;
            }
        }
        return 0;
    }

    private int upTo(int most) {
        return random.nextInt(most + 1);
    }

    /** Mostly a number that is there, at times one just outside, at times a wild one. */
    private int near(int least, int most) {
        int r = random.nextInt(40);
        if (r == 0) {
            return random.nextInt();
        }
        if (r == 1) {
            return least - 1;
        }
        if (r == 2) {
            return most + 1;
        }
        return most < least ? least : least + random.nextInt(most - least + 1);
    }

    private int holder() {
        return near(0, y.s.holders.size() - 1);
    }

    private int work() {
        return near(0, y.s.works.size() - 1);
    }

    private String number(int most) {
        int v = upTo(most);
        return v < 10 && random.nextInt(4) == 0 ? "0" + v : "" + v;
    }

    private String statement() {
        int holders = Math.max(1, y.s.holders.size());
        int who = random.nextInt(15) == 0 ? upTo(9) : random.nextInt(holders);
        int r = random.nextInt(10);
        if (r < 2 || y.s.holders.isEmpty() && r < 6) {
            return "p" + "oysjknt".charAt(upTo(6)) + upTo(9) + upTo(2) + ";";
        }
        if (r < 7) {
            int first = upTo(27);
            int last = random.nextInt(15) == 0 ? upTo(30) : Math.min(27, first + upTo(8));
            return "h" + who + (random.nextInt(3) == 0 && first < 10 ? "0" : "") + first + "-" + last + ";";
        }
        int length = random.nextInt(20) == 0 ? upTo(9) : 1 + upTo(5);
        int by = random.nextInt(3) == 0 ? upTo(29) : 15 + upTo(12);
        return "w" + who + (random.nextBoolean() ? "r" : "s") + length + ","
            + (by < 10 && random.nextBoolean() ? "0" : "") + by + "," + number(99) + "," + upTo(2) + ";";
    }

    private void tell(String text) {
        Due.feed(x, text);
        for (int i = 0; i < text.length(); i += 8) {
            String piece = text.substring(i, Math.min(text.length(), i + 8));
            long bytes = 0;
            for (int k = piece.length() - 1; k >= 0; k--) {
                bytes = bytes << 8 | piece.charAt(k);
            }
            y.feed(piece.length(), bytes);
        }
        call++;
        is("town() of " + text, x.town(), y.town());
    }

    private void settle() {
        int holders = 1 + upTo(7);
        for (int i = 0; i < holders; i++) {
            tell("p" + "oysjknt".charAt(upTo(6)) + upTo(9) + upTo(2) + ";");
        }
        int spans = upTo(24);
        for (int i = 0; i < spans; i++) {
            int first = upTo(27);
            int last = Math.min(27, first + upTo(5));
            tell("h" + random.nextInt(holders) + first + "-" + last + ";");
        }
        int works = upTo(6);
        int rows = 0;
        for (int i = 0; i < works; i++) {
            boolean row = random.nextBoolean() && rows < (random.nextInt(6) == 0 ? 6 : 3);
            rows += row ? 1 : 0;
            tell("w" + random.nextInt(holders) + (row ? "r" : "s") + (1 + upTo(5)) + ","
                + (10 + upTo(17)) + "," + upTo(99) + "," + upTo(2) + ";");
        }
    }

    private void tellSomething() {
        StringBuilder text = new StringBuilder();
        int n = upTo(3);
        for (int i = 0; i < n; i++) {
            String next = statement();
            if (text.length() + next.length() <= 64) {
                text.append(next);
            }
        }
        if (random.nextInt(4) == 0 && text.length() > 0) {
            int at = random.nextInt(text.length());
            int how = random.nextInt(3);
            if (how == 0) {
                text.setCharAt(at, "phw0123456789,-;rsoyjknt\0\377".charAt(upTo(25)));
            } else if (how == 1) {
                text.deleteCharAt(at);
            } else {
                text.setLength(at);
            }
        }
        tell(text.toString());
    }

    private void step(int kind) {
        call++;
        if (kind < 12) {
            stepOfTown(kind);
        } else if (kind < 24) {
            stepOfWorks(kind);
        } else {
            stepOfRest(kind);
        }
    }

    private void stepOfTown(int kind) {
        int a;
        int b;
        int c;
        switch (kind) {
            case 0:
                a = near(1, 8);
                long bytes = random.nextLong();
                is("feed(" + a + ")", x.feed(a, bytes), y.feed(a, bytes));
                break;
            case 1: tellSomething(); break;
            case 2: a = holder(); b = near(0, 4); is("holder(" + a + ", " + b + ")", x.holder(a, b), y.holder(a, b)); break;
            case 3: a = near(0, 27); b = near(-1, 3); is("hour(" + a + ", " + b + ")", x.hour(a, b), y.hour(a, b)); break;
            case 4: a = work(); b = near(0, 5); is("work(" + a + ", " + b + ")", x.work(a, b), y.work(a, b)); break;
            case 5: a = holder(); b = near(0, 9); is("price(" + a + ", " + b + ")", x.price(a, b), y.price(a, b)); break;
            case 6:
                a = near(0, (1 << y.s.holders.size()) - 1);
                a = random.nextBoolean() ? 0 : a;
                is("strike(" + a + ")", x.strike(a), y.strike(a));
                break;
            case 7: a = near(-1, 27); b = near(0, 2); is("bell(" + a + ", " + b + ")", x.bell(a, b), y.bell(a, b)); break;
            case 8:
                a = work();
                b = holder();
                c = near(0, 27);
                is("leave(" + a + ", " + b + ", " + c + ")", x.leave(a, b, c), y.leave(a, b, c));
                break;
            case 9: a = work(); is("one(" + a + ")", x.one(a), y.one(a)); break;
            case 10: a = work(); is("cost(" + a + ")", x.cost(a), y.cost(a)); break;
            default: a = work(); is("net(" + a + ")", x.net(a), y.net(a)); break;
        }
    }

    private void stepOfWorks(int kind) {
        int a;
        int b;
        int c;
        switch (kind) {
            case 12: a = work(); is("bars(" + a + ")", x.bars(a), y.bars(a)); break;
            case 13: is("all()", x.all(), y.all()); break;
            case 14: a = work(); is("begin(" + a + ")", x.begin(a), y.begin(a)); break;
            case 15:
            case 16: a = holder(); is("ask(" + a + ")", x.ask(a), y.ask(a)); break;
            case 17: is("rest()", x.rest(), y.rest()); break;
            case 18: a = work(); is("stop(" + a + ")", x.stop(a), y.stop(a)); break;
            case 19: is("stopAll()", x.stopAll(), y.stopAll()); break;
            case 20:
                a = holder();
                b = work();
                c = near(0, 1);
                is("power(" + a + ", " + b + ", " + c + ")", x.power(a, b, c), y.power(a, b, c));
                break;
            case 21: a = holder(); is("wed(" + a + ")", x.wed(a), y.wed(a)); break;
            case 22: a = holder(); b = holder(); is("marry(" + a + ", " + b + ")", x.marry(a, b), y.marry(a, b)); break;
            default: a = holder(); is("wedTo(" + a + ")", x.wedTo(a), y.wedTo(a)); break;
        }
    }

    private void stepOfRest(int kind) {
        int a;
        int b;
        switch (kind) {
            case 24: a = near(0, 27); b = near(0, 9999); is("heirs(" + a + ", " + b + ")", x.heirs(a, b), y.heirs(a, b)); break;
            case 25: is("give()", x.give(), y.give()); break;
            case 26: a = holder(); b = holder(); is("together(" + a + ", " + b + ")", x.together(a, b), y.together(a, b)); break;
            case 27: a = near(0, 3); b = near(0, 300); is("season(" + a + ", " + b + ")", x.season(a, b), y.season(a, b)); break;
            case 28: is("year()", x.year(), y.year()); break;
            case 29: a = near(1, 10); b = random.nextInt(); is("years(" + a + ", " + b + ")", x.years(a, b), y.years(a, b)); break;
            case 30: a = random.nextBoolean() ? 9 : near(0, 9); is("row(" + a + ")", x.row(a), y.row(a)); break;
            case 31:
                rowAsItShouldBe();
                a = near(0, 1);
                is("judge(" + a + ")", x.judge(a), y.judge(a));
                break;
            case 32:
                if (random.nextInt(3) == 0) {
                    is("image()", x.image(), y.image());
                }
                break;
            case 33:
                if (random.nextInt(3) == 0) {
                    is("on()", x.on(), y.on());
                }
                break;
            default: a = near(0, 17); is("count(" + a + ")", x.count(a), y.count(a)); break;
        }
    }

    /** At times a row that does every work in its cheapest hours, so that rows are done, too. */
    private void rowAsItShouldBe() {
        if (y.s.works.isEmpty() || random.nextInt(3) > 0) {
            return;
        }
        for (int h = y.count(5); h < 28; h++) {
            int v = 9;
            for (int w = 0; w < y.s.works.size(); w++) {
                v = (x.one(w) >> h & 1) == 1 ? w : v;
            }
            is("row(" + v + ")", x.row(v), y.row(v));
        }
    }
}
