/** A ProtoDesk that is fed with texts and bytes of any length, and whose OUT can be read at once. */
final class Desk {
    final ProtoDesk desk = new ProtoDesk();

    /** Feeds a text; each character is one byte. */
    Desk text(String text) {
        for (int k = 0; k < text.length(); k += 8) {
            int n = Math.min(8, text.length() - k);
            long bytes = 0;
            for (int j = 0; j < n; j++) {
                bytes = bytes << 8 | text.charAt(k + j) & 255;
            }
            desk.feed(bytes, n);
        }
        return this;
    }

    /** Feeds bytes written in hex, with blanks as one likes. */
    Desk hex(String hex) {
        return text(unhex(hex));
    }

    static String unhex(String hex) {
        String digits = hex.replace(" ", "");
        StringBuilder text = new StringBuilder();
        for (int k = 0; k + 1 < digits.length(); k += 2) {
            text.append((char) Integer.parseInt(digits.substring(k, k + 2), 16));
        }
        return text.toString();
    }

    static String hexOf(String text) {
        StringBuilder hex = new StringBuilder();
        for (int k = 0; k < text.length(); k++) {
            hex.append(k == 0 ? "" : " ").append(String.format("%02x", (int) text.charAt(k)));
        }
        return hex.toString();
    }

    /** Compiles what stands behind the syntax line into schema 0 and expects no error. */
    Desk schema(String rest) {
        return schema(0, rest);
    }

    Desk schema(int schema, String rest) {
        text("syntax=\"proto3\";" + rest);
        int error = desk.compile(schema);
        if (error != 0) {
            throw new IllegalStateException("error " + error + " at " + desk.place() + " in a test's schema: " + rest);
        }
        return this;
    }

    /** OUT, a character for each byte. */
    String out() {
        StringBuilder text = new StringBuilder();
        for (int k = 0; k < 4001; k++) {
            try {
                text.append((char) (desk.out(k) >>> 56));
            } catch (IndexOutOfBoundsException e) {
                return text.toString();
            }
        }
        return text.toString();
    }

    String outHex() {
        return hexOf(out());
    }

    String decode(int message, int depth) {
        return Expect.answer(() -> desk.decode(0, message, depth));
    }

    String parse(int message, int depth) {
        return Expect.answer(() -> desk.parse(0, message, depth));
    }

    String encoded() {
        String answer = Expect.answer(desk::encode);
        String out = out();
        return answer.equals(Integer.toString(out.length())) ? hexOf(out) : answer;
    }

    String printed() {
        String answer = Expect.answer(desk::print);
        String out = out();
        return answer.equals(Integer.toString(out.length())) ? out : answer;
    }
}
