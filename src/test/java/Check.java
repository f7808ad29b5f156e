import java.nio.charset.StandardCharsets;

/** Counts and prints the answers that are not as due. */
final class Check {
    private int asked = 0;
    private int wrong = 0;

    void same(String what, long got, long due) {
        asked++;
        if (got != due) {
            wrong++;
            if (wrong <= 40) {
                System.out.println(brief(what) + " answered " + got + ", due is " + due);
            }
        }
    }

    void yes(String what, boolean got) {
        same(what, got ? 1 : 0, 1);
    }

    void no(String what, boolean got) {
        same(what, got ? 1 : 0, 0);
    }

    private static String brief(String what) {
        return what.length() <= 400 ? what : what.substring(0, 100) + " .. " + what.substring(what.length() - 60);
    }

    int wrongs() {
        return wrong;
    }

    void end(String test) {
        System.out.println(test + ": " + (asked - wrong) + " of " + asked + " answers as due");
        if (wrong > 0 || asked == 0) {
            System.exit(1);
        }
    }

    /** Five ints for each twenty bytes of a text, filled up with blanks. */
    static int[][] chunks(String text) {
        byte[] bytes = text.getBytes(StandardCharsets.ISO_8859_1);
        int[][] chunks = new int[(bytes.length + 19) / 20][5];
        for (int i = 0; i < chunks.length * 20; i++) {
            int b = i < bytes.length ? bytes[i] & 255 : ' ';
            chunks[i / 20][i % 20 / 4] |= b << 24 - i % 4 * 8;
        }
        return chunks;
    }

    /** Puts a text behind the tape, to its last byte. */
    static void feed(WingHouse house, String text) {
        int[][] chunks = chunks(text);
        for (int[] c : chunks) {
            house.feed(c[0], c[1], c[2], c[3], c[4]);
        }
        house.back(chunks.length * 20 - text.length());
    }

    static int read(WingHouse house, String text) {
        feed(house, text);
        return house.read();
    }

    static WingHouse houseOf(String... texts) {
        WingHouse house = new WingHouse();
        for (String text : texts) {
            read(house, text);
        }
        return house;
    }
}
