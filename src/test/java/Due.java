/** Compares answers with those that are due, and feeds texts. */
final class Due {
    private int looked;
    private int wrong;

    void is(String call, long got, long want) {
        looked++;
        if (got != want) {
            fails(call + " answered " + got + ", due is " + want);
        }
    }

    void fails(String why) {
        wrong++;
        if (wrong <= 50) {
            System.out.println(why);
        }
    }

    /** Prints the sum of it, and ends the program with 1 if an answer was wrong. */
    void end() {
        System.out.println(looked + " answers looked at, " + wrong + " not as due");
        if (wrong != 0 || looked == 0) {
            System.exit(1);
        }
    }

    static void feed(IntoTheCorner x, String text) {
        for (int at = 0; at < text.length(); at += 8) {
            String piece = text.substring(at, Math.min(text.length(), at + 8));
            x.feed(piece.length(), packed(piece));
        }
    }

    static long packed(String piece) {
        long bytes = 0;
        for (int i = 0; i < piece.length(); i++) {
            bytes |= (piece.charAt(i) & 255L) << (8 * i);
        }
        return bytes;
    }

    static int house(IntoTheCorner x, String text) {
        feed(x, text);
        return x.house();
    }

    static int floor(IntoTheCorner x, String text) {
        feed(x, text);
        return x.floor();
    }

    static IntoTheCorner houseOf(String... texts) {
        IntoTheCorner x = new IntoTheCorner();
        for (String text : texts) {
            if (house(x, text) < 1) {
                throw new IllegalStateException("not a house: " + text);
            }
        }
        return x;
    }
}
