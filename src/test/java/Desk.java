/** A ProtoDesk that is fed with texts and bytes of any length, and whose OUT can be read at once. */
final class Desk {
    /** What is answered behind the 512th call is free, so no test may look at it. */
    private static final int MOST_CALLS = 512;

    final ProtoDesk desk = new ProtoDesk();
    private int calls;

    private void count() {
        calls++;
        if (calls > MOST_CALLS) {
            throw new IllegalStateException("a test uses one object for more than 512 calls");
        }
    }

    /** Feeds a text; each character is one byte. */
    Desk text(String text) {
        for (int k = 0; k < text.length(); k += 8) {
            int n = Math.min(8, text.length() - k);
            long bytes = 0;
            for (int j = 0; j < n; j++) {
                bytes = bytes << 8 | text.charAt(k + j) & 255;
            }
            count();
            desk.feed(bytes, n);
        }
        return this;
    }

    /** Feeds bytes written in hex, with blanks as one likes. */
    Desk hex(String hex) {
        return text(unhex(hex));
    }

    static String unhex(String hex) {
        String digits = hex.replace(" ", "");
        StringBuilder text = new StringBuilder();
        for (int k = 0; k + 1 < digits.length(); k += 2) {
            text.append((char) Integer.parseInt(digits.substring(k, k + 2), 16));
        }
        return text.toString();
    }

    static String hexOf(String text) {
        StringBuilder hex = new StringBuilder();
        for (int k = 0; k < text.length(); k++) {
            hex.append(k == 0 ? "" : " ").append(String.format("%02x", (int) text.charAt(k)));
        }
        return hex.toString();
    }

    /** Compiles what stands behind the syntax line into schema 0 and expects no error. */
    Desk schema(String rest) {
        return schema(0, rest);
    }

    Desk schema(int schema, String rest) {
        text("syntax=\"proto3\";" + rest);
        count();
        int error = desk.compile(schema);
        if (error != 0) {
            throw new IllegalStateException("error " + error + " at " + desk.place() + " in a test's schema: " + rest);
        }
        return this;
    }

    /** OUT, a character for each byte. */
    String out() {
        StringBuilder text = new StringBuilder();
        for (Long eight = eightAt(0); eight != null; eight = eightAt(text.length())) {
            int many = 8;
            // A 0 at the end is one of OUT only if its place is one.
            while ((eight >>> (64 - 8 * many) & 255) == 0 && eightAt(text.length() + many - 1) == null) {
                many--;
            }
            for (int k = 0; k < many; k++) {
                text.append((char) (eight >>> (56 - 8 * k) & 255));
            }
        }
        return text.toString();
    }

    /** What out() answers; null if it throws what it should at a place that is none. */
    private Long eightAt(int k) {
        count();
        try {
            return desk.out(k);
        } catch (IndexOutOfBoundsException e) {
            return null;
        }
    }

    String outHex() {
        return hexOf(out());
    }

    String decode(int message, int depth) {
        count();
        return Expect.answer(() -> desk.decode(0, message, depth));
    }

    String parse(int message, int depth) {
        count();
        return Expect.answer(() -> desk.parse(0, message, depth));
    }

    String encoded() {
        count();
        String answer = Expect.answer(desk::encode);
        String out = out();
        return answer.equals(Integer.toString(out.length())) ? hexOf(out) : answer;
    }

    String printed() {
        count();
        String answer = Expect.answer(desk::print);
        String out = out();
        return answer.equals(Integer.toString(out.length())) ? out : answer;
    }
}
