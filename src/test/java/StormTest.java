import java.util.Set;

/**
 * Many calls with broken texts and odd arguments, always the same ones: nothing is thrown but what the document names,
 * and what is encoded or printed can be read again (promises 2 to 14 together).
 */
public final class StormTest {
    private static final Set<String> ARGUMENT = Set.of("IllegalArgumentException");
    private static final Set<String> STATE = Set.of("IllegalStateException");
    private static final Set<String> BOTH = Set.of("IllegalArgumentException", "IllegalStateException");
    private static final String[] SCHEMAS = {
        "syntax=\"proto3\";message A{int32 a=1;repeated sint64 b=2;string c=3;A d=4;repeated A e=5;oneof x{bytes f=6;"
            + "uint64 g=7;E h=8;B i=9;}enum E{Z=0;Y=-1;X=0x10;}}message B{repeated fixed32 j=1[packed=false];A.E k=2;}",
        "syntax = \"proto3\"; // c\nmessage P { message Q { .P p = 536870911; Q q = 1; enum R { S = 0; } } Q a = 1; "
            + "Q.R b = 2; repeated bool c = 3; sfixed64 d = 4; /* c */ repeated string e = 5; } "
            + "enum T { U = 0; V = 1; }",
        "syntax=\"proto3\";message A{int64 a=1;repeated sint64 b=2;bytes c=3;A d=4;oneof y{int32 e=10;string f=6;}}"};
    private static final String[] BYTES = {
        "08 05 12 03 01 02 03 1a 01 41 22 02 08 01 2a 00 2a 02 08 07 32 01 ff", "38 05 40 ff ff ff ff 0f 4a 02 10 10",
        "0a 06 f8 ff ff ff 0f 00", "0a 02 0a 00 10 01 1a 03 00 01 02 21 01 02 03 04 05 06 07 08 2a 00 2a 01 41",
        "98 06 05 9a 06 02 08 01 9d 06 01 02 03 04", "22 08 22 06 22 04 22 02 08 01 2a 04 2a 02 2a 00", ""};
    private static final String[] TEXTS = {
        "a: 5 b: -1 b: 2 c: \"x\\n\\303\\244\" d { a: -2147483648 } e {} e { e { h: Y } }", "i { j: 1 j: 2 k: X }",
        "a { q { q { } } } b: S c: true c: false # c\n d: -9223372036854775808 e: '' e: 'a\\'b'", "f: \"\\377\\000\"",
        "e: 7", ""};
    private static final String BITS = "\"{}[];=.:-#/*\\\0\200\377 \n019aAxz_'";

    private static long state = 20261115;

    public static void main(String[] args) {
        for (int k = 0; k < 3000; k++) {
            run(k);
        }
        Expect.end();
    }

    private static int dice(int sides) {
        state = state * 6364136223846793005L + 1442695040888963407L;
        return (int) ((state >>> 33) % sides);
    }

    private static String pick(String[] of) {
        return of[dice(of.length)];
    }

    private static String broken(String text) {
        StringBuilder changed = new StringBuilder(text);
        for (int k = dice(3); k > 0; k--) {
            int at = dice(changed.length() + 1);
            int way = dice(4);
            if (way == 0) {
                changed.insert(at, BITS.charAt(dice(BITS.length())));
            } else if (way == 1 && at < changed.length()) {
                changed.deleteCharAt(at);
            } else if (way == 2 && at < changed.length()) {
                changed.setCharAt(at, (char) dice(256));
            } else if (way == 3) {
                int from = dice(changed.length() + 1);
                changed.insert(at, changed.substring(from, Math.min(changed.length(), from + dice(12))));
            }
        }
        return changed.substring(0, Math.min(changed.length(), 700));
    }

    private static int odd(int most) {
        int way = dice(20);
        return way == 0 ? Integer.MAX_VALUE : way == 1 ? Integer.MIN_VALUE : way == 2 ? -1 : dice(most);
    }

    private static boolean within(String what, Set<String> may, Expect.Call call) {
        String answer = Expect.answer(call);
        boolean number = answer.matches("-?[0-9]+");
        Expect.yes(what + " answered " + answer, number || may.contains(answer));
        return number;
    }

    private static void run(int round) {
        Desk d = new Desk();
        ProtoDesk x = d.desk;
        for (int schema = 0; schema < 2; schema++) {
            d.text(dice(3) == 0 ? broken(pick(SCHEMAS)) : pick(SCHEMAS));
            x.compile(schema);
        }
        for (int k = 0; k < 6; k++) {
            int schema = dice(2);
            int message = odd(3);
            int depth = 1 + odd(20);
            boolean there;
            if (dice(2) == 0) {
                d.text(broken(Desk.unhex(pick(BYTES))));
                there = within("decode", BOTH, () -> x.decode(schema, message, depth));
            } else {
                d.text(broken(pick(TEXTS)));
                there = within("parse", BOTH, () -> x.parse(schema, message, depth));
            }
            if (there && dice(2) == 0) {
                readAgain(d, schema, message);
            }
            anyCall(x);
        }
        Expect.yes("round " + round + " ended", x.place() >= -1);
    }

    private static void readAgain(Desk d, int schema, int message) {
        ProtoDesk x = d.desk;
        int size = x.encode();
        String bytes = d.outHex();
        int text = x.print();
        String lines = d.out();
        Expect.same("the length that is told", text, lines.length());
        if (size <= 700 && text <= 700) {
            x.turn();
            int values = x.parse(schema, message, 20);
            x.print();
            Expect.same("printed, parsed and printed", lines, d.out());
            d.hex(bytes);
            Expect.same("as many values", values, x.decode(schema, message, 20));
            x.encode();
            Expect.same("encoded, decoded and encoded", bytes, d.outHex());
        }
    }

    private static void anyCall(ProtoDesk x) {
        int a = odd(3);
        int b = odd(3);
        int c = odd(4);
        int w = odd(8);
        switch (dice(11)) {
            case 0:
                within("feed", BOTH, () -> x.feed(state, c + w));
                break;
            case 1:
                within("many", ARGUMENT, () -> x.many(a, c));
                break;
            case 2:
                within("field", ARGUMENT, () -> x.field(a, b, c, w));
                break;
            case 3:
                within("find", ARGUMENT, () -> x.find(a));
                break;
            case 4:
                within("encode", STATE, x::encode);
                break;
            case 5:
                within("print", Set.of("IllegalStateException", "UnsupportedOperationException"), x::print);
                break;
            case 6:
                within("check", ARGUMENT, () -> x.check(a, b));
                break;
            case 7:
                within("out", Set.of("IndexOutOfBoundsException"), () -> x.out(w * 8));
                break;
            case 8:
                within("turn", STATE, x::turn);
                break;
            case 9:
                within("compile", ARGUMENT, () -> x.compile(dice(4) == 0 ? a : 7));
                break;
            default:
                within("place", Set.of(), x::place);
                break;
        }
        // So that what anyCall left on the tape does not fill it.
        x.find(0);
    }
}
