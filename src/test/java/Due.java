import java.nio.charset.StandardCharsets;

/** What the project's tests share: answers that are due, refusals that are due, a text put on the tape. */
final class Due {
    interface Call {
        int go();
    }

    private static int wrong = 0;
    private static int asked = 0;
    private static String under = "";

    private Due() {
    }

    /** What is told ahead of every wrong answer from here on. */
    static void under(String words) {
        under = words.isEmpty() ? "" : words + ": ";
    }

    static void is(String call, int got, int want) {
        asked++;
        if (got != want) {
            wrong++;
            System.out.println(under + call + " answered " + got + ", due is " + want);
        }
    }

    static void is(String call, boolean holds) {
        asked++;
        if (!holds) {
            wrong++;
            System.out.println(under + call + " does not hold");
        }
    }

    private static void refused(String call, Class<? extends RuntimeException> due, Call what) {
        asked++;
        Class<?> got = null;
        try {
            what.go();
        } catch (RuntimeException e) {
            got = e.getClass();
        }
        if (got != due) {
            wrong++;
            System.out.println(under + call + " threw " + got + ", due is " + due);
        }
    }

    static void outOfBounds(String call, Call what) {
        refused(call, IndexOutOfBoundsException.class, what);
    }

    static void illegal(String call, Call what) {
        refused(call, IllegalArgumentException.class, what);
    }

    static void noSuch(String call, Call what) {
        refused(call, java.util.NoSuchElementException.class, what);
    }

    /** Puts a text on the tape and reads it: what mills() answers. */
    static int tell(RivalMills x, String text) {
        return tell(x, text, text.length());
    }

    /** Reads but the first bytes of it. */
    static int tell(RivalMills x, String text, int n) {
        byte[] bytes = text.getBytes(StandardCharsets.ISO_8859_1);
        for (int start = 0; start < bytes.length; start += 20) {
            int[] five = new int[5];
            for (int k = 0; k < 20; k++) {
                int b = start + k < bytes.length ? bytes[start + k] & 255 : 0;
                five[k / 4] = five[k / 4] << 8 | b;
            }
            x.feed(five[0], five[1], five[2], five[3], five[4]);
        }
        return x.mills(n);
    }

    static RivalMills of(String text) {
        RivalMills x = new RivalMills();
        int answer = tell(x, text);
        if (answer < 0) {
            throw new IllegalStateException("the test's text has a fault: " + text + " " + answer + " at " + x.fault());
        }
        return x;
    }

    static void end() {
        System.out.println(wrong == 0 ? asked + " answers are as due" : wrong + " of " + asked + " answers are not as due");
        if (wrong != 0) {
            System.exit(1);
        }
    }
}
