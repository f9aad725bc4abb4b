/** Promises 1 (a new object), 2 (feed), 13 (out) and 14 (turn). */
public final class TapeTest {
    private static final String SCHEMA = "message A { bytes b = 1; repeated int32 r = 2; A a = 3; string s = 4; }";

    public static void main(String[] args) {
        newObject();
        feed();
        feedToTheBrim();
        wrongFeeds();
        out();
        outIsEmptiedFirst();
        turn();
        turnOfTooMuch();
        Expect.end();
    }

    private static void newObject() {
        ProtoDesk desk = new ProtoDesk();
        Expect.same("place of a new object", -1, desk.place());
        for (int schema = 0; schema < 2; schema++) {
            for (int what = 0; what < 3; what++) {
                Expect.same("many of a new object", 0, desk.many(schema, what));
            }
        }
        Expect.same("out of a new object", "IndexOutOfBoundsException", Expect.answer(() -> desk.out(0)));
        Expect.state("encode of a new object", desk::encode);
        Expect.state("print of a new object", desk::print);
        Expect.argument("check of a new object", () -> desk.check(0, 0));
        Expect.argument("field of a new object", () -> desk.field(0, 0, 0, 0));
        Expect.argument("decode of a new object", () -> desk.decode(0, 0, 1));
        Expect.argument("parse of a new object", () -> desk.parse(0, 0, 1));
        Expect.same("find of a new object", -1, desk.find(0));
        Expect.same("turn of a new object", 0, desk.turn());
        Expect.same("feed of a new object", 1, desk.feed(0, 1));
        ProtoDesk empty = new ProtoDesk();
        Expect.same("compile of an empty tape", 1, empty.compile(1));
        Expect.same("its place", 0, empty.place());
    }

    private static void feed() {
        Desk d = new Desk().schema(SCHEMA);
        Expect.same("feed 2", 2, d.desk.feed(0x1122334455660A03L, 2));
        Expect.same("feed 3 more", 5, d.desk.feed(-1L << 24 | 0x010203, 3));
        Expect.same("the lowest n count", "1", d.decode(0, 1));
        Expect.same("the highest of these first", "0a 03 01 02 03", d.encoded());
        Expect.same("the tape was used", 8, d.desk.feed(0x0A07808182838485L, 8));
        Expect.same("feed 1", 9, d.desk.feed(0xFF86, 1));
        Expect.same("all eight and the lowest one", "1", d.decode(0, 1));
        Expect.same("highest first", "0a 07 80 81 82 83 84 85 86", d.encoded());
        Expect.same("the highest byte is left out", 7, d.desk.feed(0x770A0501020304FFL, 7));
        Expect.same("the seven behind it", "1", d.decode(0, 1));
        Expect.same("these seven", "0a 05 01 02 03 04 ff", d.encoded());
    }

    private static void feedToTheBrim() {
        ProtoDesk desk = new ProtoDesk();
        for (int k = 1; k <= 87; k++) {
            Expect.same("feed 8", 8 * k, desk.feed(k, 8));
        }
        Expect.state("697 + 8", () -> desk.feed(1, 8));
        Expect.same("696 + 3", 699, desk.feed(1, 3));
        Expect.state("699 + 2", () -> desk.feed(1, 2));
        Expect.same("699 + 1", 700, desk.feed(1, 1));
        Expect.state("700 + 1", () -> desk.feed(1, 1));
        Expect.argument("a wrong n on a full tape", () -> desk.feed(1, 0));
        Expect.argument("a wrong n on a full tape", () -> desk.feed(1, 9));
        Expect.same("find uses the tape", -1, desk.find(0));
        Expect.same("an empty tape again", 4, desk.feed(1, 4));
    }

    private static void wrongFeeds() {
        ProtoDesk desk = new ProtoDesk();
        desk.feed(7, 5);
        for (int n : new int[] {0, -1, 9, 16, Integer.MIN_VALUE, Integer.MAX_VALUE}) {
            Expect.argument("feed " + n, () -> desk.feed(1, n));
        }
        Expect.same("the tape stays", 6, desk.feed(7, 1));
    }

    private static void out() {
        Desk d = new Desk().schema(SCHEMA);
        d.hex("0a 09 01 02 03 04 05 06 07 08 ff").decode(0, 1);
        Expect.same("encode", 11, d.desk.encode());
        Expect.same("out(0)", 0x0A09010203040506L, d.desk.out(0));
        Expect.same("out(3)", 0x02030405060708FFL, d.desk.out(3));
        Expect.same("out(4)", 0x030405060708FF00L, d.desk.out(4));
        Expect.same("out(10)", 0xFF00000000000000L, d.desk.out(10));
        for (int k : new int[] {11, 12, 4000, -1, Integer.MIN_VALUE, Integer.MAX_VALUE}) {
            Expect.same("out(" + k + ")", "IndexOutOfBoundsException", Expect.answer(() -> d.desk.out(k)));
        }
        d.schema("message B {}");
        Expect.same("OUT stays at compile", 0x0A09010203040506L, d.desk.out(0));
    }

    private static void outIsEmptiedFirst() {
        Desk d = new Desk().schema(SCHEMA).schema(1, "message A { bytes b = 1; }");
        String[] calls = {"encode", "print", "check"};
        for (String call : calls) {
            d.hex("0a 01 41").decode(0, 1);
            Expect.same("encoded", "0a 01 41", d.encoded());
            d.decode(7, 1);
            Expect.same("OUT stays at decode", "0a 01 41", d.outHex());
            if (call.equals("encode")) {
                Expect.state("encode without a value", d.desk::encode);
            } else if (call.equals("print")) {
                Expect.state("print without a value", d.desk::print);
            } else {
                Expect.argument("check of none", () -> d.desk.check(0, 1));
            }
            Expect.same("OUT is empty after " + call, "", d.outHex());
        }
        d.hex("0a 01 41").decode(0, 1);
        d.encoded();
        Expect.same("they agree", 0, d.desk.check(0, 0));
        Expect.same("OUT is empty then", "", d.outHex());
    }

    private static void turn() {
        Desk d = new Desk().schema(SCHEMA);
        d.text("b: \"ab\" r: 5 r: -1").parse(0, 1);
        Expect.same("encode", 17, d.desk.encode());
        String bytes = d.outHex();
        d.text("what stood on the tape");
        Expect.same("turn", 17, d.desk.turn());
        Expect.same("OUT stays", bytes, d.outHex());
        Expect.same("the tape is OUT", "3", d.decode(0, 1));
        Expect.same("the same again", bytes, d.encoded());
        d.desk.turn();
        Expect.same("the tape grows from there", 18, d.desk.feed(0, 1));
        Expect.same("turn again", 17, d.desk.turn());
        Expect.same("print", 19, d.desk.print());
        Expect.same("turn the text", 19, d.desk.turn());
        Expect.same("it is parsed", "3", d.parse(0, 1));
        Expect.same("to the same", bytes, d.encoded());
        Expect.argument("check of none empties OUT", () -> d.desk.check(0, 0));
        Expect.same("turn of nothing", 0, d.desk.turn());
        Expect.same("the tape is empty", 1, d.desk.feed(0, 1));
    }

    private static void turnOfTooMuch() {
        Desk d = new Desk().schema("message A { bytes b = 1; }");
        String many = "\001".repeat(172);
        d.text("\012\254\001" + many).decode(0, 1);
        Expect.same("print of 694", 694, d.desk.print());
        Expect.same("turn of 694", 694, d.desk.turn());
        d.desk.find(0);
        d.text("\012\262\001" + many + "abcdef").decode(0, 1);
        Expect.same("print of 700", 700, d.desk.print());
        Expect.same("turn of 700", 700, d.desk.turn());
        d.desk.find(0);
        d.text("\012\263\001" + many + "abcdefg").decode(0, 1);
        Expect.same("print of 701", 701, d.desk.print());
        d.text("A");
        Expect.state("turn of 701", d.desk::turn);
        Expect.same("the tape stays", 0, d.desk.find(0));
        Expect.same("OUT stays", 701, d.out().length());
    }
}
