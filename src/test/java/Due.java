/** Counts answers that are not as due, and feeds texts. */
final class Due {
    private int wrong;

    void is(String call, long got, long want) {
        if (got != want) {
            wrong++;
            System.out.println(call + " answered " + got + ", due is " + want);
        }
    }

    static void feed(WhoseHourItIs x, String text) {
        for (int i = 0; i < text.length(); i += 8) {
            int n = Math.min(8, text.length() - i);
            long bytes = 0;
            for (int k = 0; k < n; k++) {
                bytes |= (long) (text.charAt(i + k) & 255) << 8 * k;
            }
            x.feed(n, bytes);
        }
    }

    static int tell(WhoseHourItIs x, String text) {
        feed(x, text);
        return x.town();
    }

    /** A new object to which statements were told, as many at once as 64 bytes have room for. */
    static WhoseHourItIs of(String statements) {
        WhoseHourItIs x = new WhoseHourItIs();
        int begin = 0;
        while (begin < statements.length()) {
            int end = Math.min(statements.length(), begin + 64);
            String text = statements.substring(begin, statements.lastIndexOf(';', end - 1) + 1);
            int answer = tell(x, text);
            if (answer < 1) {
                throw new IllegalStateException(text + " has a fault: " + answer);
            }
            begin += text.length();
        }
        return x;
    }

    void end() {
        System.out.println(wrong == 0 ? "all answers are as due" : wrong + " answers are not as due");
        if (wrong != 0) {
            System.exit(1);
        }
    }
}
