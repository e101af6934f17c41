import java.util.NoSuchElementException;

/** What the tests share: counting what is wrong, and feeding texts. */
final class Checks {
    private int wrong;
    private int checked;

    interface Call {
        int answer() throws NoSuchElementException;
    }

    void due(String call, int got, int want) {
        checked++;
        if (got != want) {
            wrong++;
            System.out.println(call + " answered " + got + ", due is " + want);
        }
    }

    void due(String call, boolean got, boolean want) {
        due(call, got ? 1 : 0, want ? 1 : 0);
    }

    void noSuch(String call, Call asked) {
        checked++;
        try {
            int got = asked.answer();
            wrong++;
            System.out.println(call + " answered " + got + ", due is NoSuchElementException");
        } catch (NoSuchElementException e) {
            return;
        }
    }

    void end() {
        System.out.println(checked + " answers, " + wrong + " not as due");
        if (wrong != 0 || checked == 0) {
            System.exit(1);
        }
    }

    static long bytes(String text, int from) {
        long all = 0;
        for (int i = from; i < from + 8; i++) {
            all = all << 8 | (i < text.length() ? text.charAt(i) & 255 : 0);
        }
        return all;
    }

    static void feed(MangleTown x, String text) {
        for (int i = 0; i < text.length(); i += 24) {
            x.feed(bytes(text, i), bytes(text, i + 8), bytes(text, i + 16));
        }
    }

    static int town(MangleTown x, String text) {
        feed(x, text);
        return x.town();
    }

    static int years(MangleTown x, String text) {
        feed(x, text);
        return x.years();
    }

    /** A new object with that town; a fault in it ends the test. */
    static MangleTown of(String text) {
        MangleTown x = new MangleTown();
        int fault = town(x, text);
        if (fault != 0) {
            throw new IllegalArgumentException("fault " + fault + " in " + text);
        }
        return x;
    }
}
