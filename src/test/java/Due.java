import java.util.function.LongSupplier;

/** Counts the answers that are not the ones that are due. */
final class Due {
    private int asked;
    private int wrong;

    void is(String call, long want, long got) {
        asked++;
        if (got != want) {
            wrong++;
            System.out.println(call + " answered " + got + ", due is " + want);
        }
    }

    void isDouble(String call, double want, double got) {
        asked++;
        if (got != want) {
            wrong++;
            System.out.println(call + " answered " + got + ", due is " + want);
        }
    }

    /** The call has to throw just this class. */
    void refuses(String call, Class<? extends RuntimeException> want, LongSupplier asking) {
        asked++;
        String got;
        try {
            got = "answered " + asking.getAsLong();
        } catch (RuntimeException e) {
            if (e.getClass() == want) {
                return;
            }
            got = "threw " + e.getClass().getName();
        }
        wrong++;
        System.out.println(call + " " + got + ", due is " + want.getName());
    }

    void end(String name) {
        System.out.println(name + ": " + asked + " answers, " + wrong + " of them wrong");
        if (wrong != 0 || asked == 0) {
            System.exit(1);
        }
    }

    /** Puts a text into the buffer, which has to be empty. */
    static void put(KaleidoscopeBox box, String text) {
        int length = 0;
        for (int i = 0; i < text.length(); i += 4) {
            int bytes = 0;
            for (int j = i; j < i + 4; j++) {
                bytes = bytes << 8 | (j < text.length() ? text.charAt(j) & 255 : ' ');
            }
            length = box.appendText(bytes);
        }
        if (length != text.length()) {
            box.truncateText(text.length());
        }
    }

    static int load(KaleidoscopeBox box, String text) {
        put(box, text);
        return box.load();
    }

    static KaleidoscopeBox of(String text) {
        KaleidoscopeBox box = new KaleidoscopeBox();
        if (load(box, text) == KaleidoscopeBox.NONE) {
            throw new IllegalArgumentException(text + " has an error at " + box.errorPosition());
        }
        return box;
    }
}
