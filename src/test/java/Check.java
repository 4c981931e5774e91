import java.nio.charset.StandardCharsets;

/** Counts answers that are not due, and feeds texts. */
final class Check {
    interface Call {
        Object get();
    }

    private int wrong = 0;
    private String sentence = "";

    /** What is asked from here on belongs to this sentence of the document. */
    void sentence(String told) {
        sentence = "[" + told + "] ";
    }

    static Object outcome(Call call) {
        try {
            return call.get();
        } catch (RuntimeException e) {
            return e.getClass();
        }
    }

    void due(String name, Object want, Call call) {
        Object got = outcome(call);
        if (!want.equals(got)) {
            wrong++;
            System.out.println(sentence + name + " answered " + got + ", due is " + want);
        }
    }

    void outOfBounds(String name, Call call) {
        due(name, IndexOutOfBoundsException.class, call);
    }

    void illegal(String name, Call call) {
        due(name, IllegalArgumentException.class, call);
    }

    void noSuch(String name, Call call) {
        due(name, java.util.NoSuchElementException.class, call);
    }

    void unsupported(String name, Call call) {
        due(name, UnsupportedOperationException.class, call);
    }

    int wrong() {
        return wrong;
    }

    void finish() {
        System.out.println(wrong == 0 ? "all answers are as due" : wrong + " answers are not as due");
        if (wrong != 0) {
            System.exit(1);
        }
    }

    static void feed(BeltHall x, byte[] bytes) {
        x.end(0);
        for (int i = 0; i < bytes.length; i += 20) {
            x.feed(word(bytes, i), word(bytes, i + 4), word(bytes, i + 8), word(bytes, i + 12), word(bytes, i + 16));
        }
        x.end(bytes.length);
    }

    private static int word(byte[] bytes, int from) {
        int word = 0;
        for (int i = from; i < from + 4; i++) {
            word = word << 8 | (i < bytes.length ? bytes[i] & 255 : 0);
        }
        return word;
    }

    static void feed(BeltHall x, String text) {
        feed(x, text.getBytes(StandardCharsets.ISO_8859_1));
    }

    static void feed(BeltHall x, int... bytes) {
        byte[] packed = new byte[bytes.length];
        for (int i = 0; i < bytes.length; i++) {
            packed[i] = (byte) bytes[i];
        }
        feed(x, packed);
    }

    static BeltHall hall(String... texts) {
        BeltHall x = new BeltHall();
        for (String text : texts) {
            feed(x, text);
            x.hall();
        }
        return x;
    }

    static BeltHall law(BeltHall x, String text) {
        feed(x, text);
        x.law();
        return x;
    }
}
