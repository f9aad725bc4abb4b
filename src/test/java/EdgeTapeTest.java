/**
 * The document's sentences about the tape, OUT, the state and the calls' arguments that name an edge, a method each
 * (the terms' first part; promises 1, 2, 4, 5, 13 and 14, and what all others do to the tape and OUT).
 */
public final class EdgeTapeTest {
    private static final String SCHEMA = "message A { bytes b = 1; repeated bool " + "t".repeat(60) + " = 2; }";
    private static final String[] ERRORS = {"message A {}", "~", "option", "message A {} message A {}",
        "message A { int32 a = 0; }", "message A { B b = 1; }", "enum A { B = 1; }",
        "message A { message B {} message C {} message D {} message E {} message F {} message G {} message H {} "
            + "message I {} message J {} message K {} message L {} message M {} message N {} message O {} "
            + "message P {} message Q {} }"};

    /** Something that is done with a desk. */
    private interface Act {
        String on(ProtoDesk desk);
    }

    public static void main(String[] args) {
        tapeHasUpTo700Bytes();
        usedTapeIsEmptyAfterCompile();
        usedTapeIsEmptyAfterFind();
        usedTapeIsEmptyAfterDecode();
        usedTapeIsEmptyAfterParse();
        tapeStaysWithoutSuchSchema();
        otherCallsLeaveTheTape();
        outIsWhatTheLatestGave();
        outIsEmptyAtFirst();
        outIsEmptyBeforeEncode();
        outIsEmptyBeforePrint();
        outIsEmptyBeforeCheck();
        outIsEmptyWhenTheTextIsTooLong();
        outHasUpTo4000Bytes();
        otherCallsLeaveOut();
        schemasAreTwo();
        valueIsOne();
        otherCallsLeaveTheValue();
        feedTakesTheLowestBytes();
        feedTakesOneToEight();
        feedUpTo700();
        refusedFeedChangesNothing();
        placeIsOfTheLatestCompile();
        manyTakesThreeQuestions();
        outGivesZerosBeyondItsEnd();
        outTakesPlacesOfItAlone();
        turnTakesUpTo700();
        turnReplacesTheTape();
        anObjectLivesFor512Calls();
        Expect.end();
    }

    private static void tapeHasUpTo700Bytes() {
        StringBuilder bytes = new StringBuilder("\012\271\005");
        for (int k = 0; k < 697; k++) {
            bytes.append((char) (k * 7 % 256));
        }
        Desk d = new Desk().schema(SCHEMA).text(bytes.toString());
        Expect.same("700 bytes are decoded", "1", d.decode(0, 1));
        Expect.same("all 700 are there", Desk.hexOf(bytes.toString()), d.encoded());
    }

    private static void isEmpty(String what, ProtoDesk desk) {
        Expect.same("the tape is empty after " + what, 1, desk.feed('A', 1));
    }

    /** "a call that USES it leaves it empty, whatever it answers or throws" */
    private static void usedTapeIsEmptyAfterCompile() {
        for (int error = 0; error < ERRORS.length; error++) {
            Desk d = new Desk().text(Marked.SYNTAX + ERRORS[error]);
            Expect.same("compile of " + ERRORS[error], error, d.desk.compile(0));
            isEmpty("compile", d.desk);
        }
    }

    private static void usedTapeIsEmptyAfterFind() {
        Desk d = new Desk().schema(SCHEMA);
        Expect.same("found", 0, d.text("A").desk.find(0));
        Expect.same("then an empty tape is none's name", -1, d.desk.find(0));
        Expect.same("not found", -1, d.text("none").desk.find(0));
        isEmpty("find of none", d.desk);
        Expect.argument("no such schema", () -> d.desk.find(2));
        isEmpty("find in none", d.desk);
    }

    private static void usedTapeIsEmptyAfterDecode() {
        Desk d = new Desk().schema(SCHEMA);
        d.hex("0a 00").decode(0, 1);
        isEmpty("decode", d.desk);
        d.desk.find(0);
        Expect.same("wrong", "IllegalArgumentException", d.hex("00").decode(0, 1));
        isEmpty("a wrong decode", d.desk);
        d.desk.find(0);
        Expect.same("too much", "IllegalStateException", d.hex("12 c9 01" + " 00".repeat(201)).decode(0, 1));
        isEmpty("a decode beyond the limits", d.desk);
        int[][] none = {{2, 0, 1}, {0, 1, 1}, {0, 0, 0}, {0, 0, 21}};
        for (int[] call : none) {
            Expect.argument("none such", () -> d.desk.decode(call[0], call[1], call[2]));
            isEmpty("a decode of none such", d.desk);
        }
    }

    private static void usedTapeIsEmptyAfterParse() {
        Desk d = new Desk().schema("message A { repeated A a = 1; }");
        d.text("a {}").parse(0, 2);
        isEmpty("parse", d.desk);
        Expect.same("wrong", "IllegalArgumentException", d.text(" ").parse(0, 1));
        isEmpty("a wrong parse", d.desk);
        d.desk.find(0);
        Expect.same("too much", "IllegalStateException", d.text("a{}".repeat(201)).parse(0, 2));
        isEmpty("a parse beyond the limits", d.desk);
        int[][] none = {{2, 0, 1}, {0, 1, 1}, {0, 0, 0}, {0, 0, 21}};
        for (int[] call : none) {
            Expect.argument("none such", () -> d.desk.parse(call[0], call[1], call[2]));
            isEmpty("a parse of none such", d.desk);
        }
    }

    /** "IllegalArgumentException: no such schema (the tape stays)" */
    private static void tapeStaysWithoutSuchSchema() {
        Desk d = new Desk().schema(SCHEMA).text("A");
        Expect.argument("compile(-1)", () -> d.desk.compile(-1));
        Expect.argument("compile(2)", () -> d.desk.compile(2));
        Expect.same("the tape is still a name", 0, d.desk.find(0));
    }

    private static String tried(Expect.Call call) {
        return Expect.answer(call);
    }

    /** Calls that use neither the tape nor give OUT, right ones and refused ones. */
    private static final Act[] QUIET = {
        desk -> tried(desk::place), desk -> tried(() -> desk.many(0, 0)), desk -> tried(() -> desk.many(0, 3)),
        desk -> tried(() -> desk.many(2, 0)), desk -> tried(() -> desk.field(0, 0, 0, 0)),
        desk -> tried(() -> desk.field(0, 0, 0, 6)), desk -> tried(() -> desk.field(0, 9, 0, 0)),
        desk -> tried(() -> desk.out(0)), desk -> tried(() -> desk.out(-1)), desk -> tried(() -> desk.out(4000)),
        desk -> tried(() -> desk.feed(0, 0)), desk -> tried(() -> desk.feed(0, 9)),
        desk -> tried(() -> desk.compile(2))};

    private static void otherCallsLeaveTheTape() {
        Desk d = new Desk().schema(SCHEMA).schema(1, SCHEMA);
        d.text("\012\377\001" + "\001".repeat(255)).decode(0, 1);
        Expect.same("an OUT of 1026 bytes", 1026, d.desk.print());
        for (Act act : QUIET) {
            String answer = act.on(d.text("A").desk);
            Expect.same("the tape stays where " + answer + " is answered", 0, d.desk.find(0));
        }
        Expect.state("turn of 1026", () -> d.text("A").desk.turn());
        Expect.same("the tape stays", 0, d.desk.find(0));
        Act[] givers = {desk -> tried(desk::encode), desk -> tried(desk::print), desk -> tried(() -> desk.check(0, 0)),
            desk -> tried(() -> desk.check(0, 1))};
        for (int k = 0; k < 2; k++) {
            for (Act act : givers) {
                String answer = act.on(d.text("A").desk);
                Expect.same("the tape stays where " + answer + " is answered", 0, d.desk.find(0));
            }
            // The second time there is no value.
            d.desk.decode(0, 0, 1);
            Expect.argument("wrong", () -> d.hex("00").desk.decode(0, 0, 1));
        }
    }

    /** "OUT is what the latest encode(), print() or check() gave" */
    private static void outIsWhatTheLatestGave() {
        Desk d = new Desk().schema("message A { int32 a = 1; }").schema(1, "message A { string a = 1; }");
        d.hex("08 05").decode(0, 1);
        Expect.same("encode", 2, d.desk.encode());
        Expect.same("its bytes", "08 05", d.outHex());
        Expect.same("print", 5, d.desk.print());
        Expect.same("its bytes", "a: 5\n", d.out());
        Expect.same("check", 2, d.desk.check(0, 0));
        Expect.same("its bytes", "01", d.outHex());
        Expect.same("encode again", 2, d.desk.encode());
        Expect.same("its bytes", "08 05", d.outHex());
    }

    private static void outIsEmptyAtFirst() {
        ProtoDesk desk = new ProtoDesk();
        Expect.same("out(0)", "IndexOutOfBoundsException", tried(() -> desk.out(0)));
        Expect.same("turn", 0, desk.turn());
    }

    /** A desk with an OUT and without a value. */
    private static Desk withOutAlone() {
        Desk d = new Desk().schema(SCHEMA);
        d.hex("0a 01 41").decode(0, 1);
        Expect.same("OUT", "0a 01 41", d.encoded());
        Expect.same("no value any more", "IllegalArgumentException", d.hex("00").decode(0, 1));
        Expect.same("OUT stays", "0a 01 41", d.outHex());
        return d;
    }

    /** "empty at first, and before each of these, whatever it throws" */
    private static void outIsEmptyBeforeEncode() {
        Desk d = withOutAlone();
        Expect.state("encode", d.desk::encode);
        Expect.same("OUT is empty", 0, d.desk.turn());
    }

    private static void outIsEmptyBeforePrint() {
        Desk d = withOutAlone();
        Expect.state("print", d.desk::print);
        Expect.same("OUT is empty", 0, d.desk.turn());
    }

    private static void outIsEmptyBeforeCheck() {
        Desk d = withOutAlone();
        Expect.argument("check", () -> d.desk.check(0, 0));
        Expect.same("OUT is empty", 0, d.desk.turn());
    }

    /** A value whose text has 58 lines of 67 bytes, and one of 6 with 27 bytes of four each and so many more: 4,000. */
    private static String longText(int more) {
        return "\022\072" + "\001".repeat(58) + "\012" + (char) (27 + more) + "\001".repeat(27) + "x".repeat(more);
    }

    /** "they are more than 4,000 (OUT is empty then)" */
    private static void outIsEmptyWhenTheTextIsTooLong() {
        Desk d = new Desk().schema(SCHEMA);
        Expect.same("59 values", "59", d.text(longText(1)).decode(0, 1));
        Expect.same("encode", 90, d.desk.encode());
        Expect.same("4,001 bytes", "UnsupportedOperationException", tried(d.desk::print));
        Expect.same("OUT is empty", 0, d.desk.turn());
        Expect.same("the value stays", 90, d.desk.encode());
    }

    /** "at most 4,000 bytes" */
    private static void outHasUpTo4000Bytes() {
        for (int more = 0; more <= 9; more++) {
            Desk d = new Desk().schema(SCHEMA);
            d.text(longText(more)).decode(0, 1);
            Expect.same("print of 4,000 and " + more, more == 0 ? "4000" : "UnsupportedOperationException",
                    tried(d.desk::print));
        }
        Desk d = new Desk().schema(SCHEMA);
        d.text(longText(0)).decode(0, 1);
        Expect.same("4,000 bytes", 4000, d.desk.print());
        Expect.same("the last of them", 0x650A000000000000L, d.desk.out(3998));
        Expect.same("none behind it", "IndexOutOfBoundsException", tried(() -> d.desk.out(4000)));
    }

    private static void otherCallsLeaveOut() {
        Desk d = new Desk().schema(SCHEMA).schema(1, SCHEMA);
        d.hex("0a 01 41").decode(0, 1);
        Expect.same("OUT", "0a 01 41", d.encoded());
        for (Act act : QUIET) {
            String answer = act.on(d.desk);
            Expect.same("OUT stays where " + answer + " is answered", 0x0A01410000000000L, d.desk.out(0));
        }
        Act[] others = {desk -> tried(() -> desk.feed(7, 8)), desk -> tried(() -> desk.find(0)),
            desk -> tried(() -> desk.find(2)), desk -> tried(() -> desk.decode(0, 0, 1)),
            desk -> tried(() -> desk.decode(0, 0, 0)), desk -> tried(() -> desk.parse(0, 0, 1)),
            desk -> tried(() -> desk.parse(0, 0, 0)), desk -> tried(desk::turn), desk -> tried(() -> desk.compile(0)),
            desk -> tried(() -> desk.compile(1))};
        for (Act act : others) {
            String answer = act.on(d.desk);
            Expect.same("OUT stays where " + answer + " is answered", "0a 01 41", d.outHex());
        }
    }

    /** "There are two SCHEMAS, 0 and 1, both empty at first" */
    private static void schemasAreTwo() {
        Desk d = new Desk();
        for (int what = 0; what < 3; what++) {
            Expect.same("schema 0 is empty", 0, d.desk.many(0, what));
            Expect.same("schema 1 is empty", 0, d.desk.many(1, what));
        }
        d.schema(1, "message A { int32 a = 1; } enum E { F = 0; }");
        for (int what = 0; what < 3; what++) {
            Expect.same("schema 0 is still empty", 0, d.desk.many(0, what));
            Expect.same("schema 1 has one", 1, d.desk.many(1, what));
        }
        d.schema(0, "message B { int32 b = 1; int32 c = 2; } message D {} enum E { F = 0; } enum G { H = 0; }");
        for (int what = 0; what < 3; what++) {
            Expect.same("schema 0 has two", 2, d.desk.many(0, what));
            Expect.same("schema 1 has still one", 1, d.desk.many(1, what));
        }
        Expect.same("a wrong text for schema 0", 1, d.text("x").desk.compile(0));
        Expect.same("schema 0 is empty", 0, d.desk.many(0, 0));
        Expect.same("schema 1 stays", 1, d.desk.many(1, 0));
    }

    /** "one VALUE, none at first" */
    private static void valueIsOne() {
        Desk d = new Desk();
        Expect.state("encode at first", d.desk::encode);
        Expect.state("print at first", d.desk::print);
        d.schema(0, "message A { int32 a = 1; }").schema(1, "message B { string b = 2; }");
        Expect.state("schemas are no value", d.desk::encode);
        d.hex("08 05").decode(0, 1);
        Expect.same("a value of schema 0", "a: 5\n", d.printed());
        Expect.same("parse", 1, d.text("b: 'x'").desk.parse(1, 0, 1));
        Expect.same("one of schema 1 in its place", "12 01 78", d.encoded());
        Expect.same("decode of nothing", 0, d.desk.decode(0, 0, 1));
        Expect.same("an empty value is one", 0, d.desk.encode());
        for (int schema = 0; schema < 2; schema++) {
            d.hex("08 05").decode(0, 1);
            d.schema(schema, "message A { int32 a = 1; }");
            Expect.state("none after compile(" + schema + ")", d.desk::encode);
        }
    }

    private static void otherCallsLeaveTheValue() {
        Desk d = new Desk().schema(0, "message A { int32 a = 1; }").schema(1, "message A { int32 a = 1; }");
        d.hex("08 05").decode(0, 1);
        for (Act act : QUIET) {
            String answer = act.on(d.desk);
            Expect.same("the value stays where " + answer + " is answered", "08 05", d.encoded());
        }
        Act[] others = {desk -> tried(() -> desk.feed(7, 8)), desk -> tried(() -> desk.find(0)),
            desk -> tried(() -> desk.find(2)), desk -> tried(desk::encode), desk -> tried(desk::print),
            desk -> tried(() -> desk.check(0, 0)), desk -> tried(() -> desk.check(0, 1)), desk -> tried(desk::turn)};
        for (Act act : others) {
            String answer = act.on(d.desk);
            Expect.same("the value stays where " + answer + " is answered", "08 05", d.encoded());
        }
    }

    /** "n bytes (1 .. 8; the lowest n, the highest of these first) more on the tape: how many" */
    private static void feedTakesTheLowestBytes() {
        for (int n = 1; n <= 8; n++) {
            Desk d = new Desk().schema(SCHEMA);
            Expect.same("two bytes", 2, d.desk.feed(0x0A00 | n, 2));
            Expect.same("and n more", 2 + n, d.desk.feed(0xF1F2F3F4F5F6F7F8L, n));
            Expect.same("they are decoded", "1", d.decode(0, 1));
            String due = "f1 f2 f3 f4 f5 f6 f7 f8".substring(3 * (8 - n));
            Expect.same("the lowest " + n, String.format("0a %02x ", n) + due, d.encoded());
        }
    }

    /** "IllegalArgumentException: n is not so" */
    private static void feedTakesOneToEight() {
        for (int n = -20; n <= 20; n++) {
            ProtoDesk desk = new ProtoDesk();
            int many = n;
            String due = n >= 1 && n <= 8 ? Integer.toString(n) : "IllegalArgumentException";
            Expect.same("feed of " + n, due, tried(() -> desk.feed(-1, many)));
        }
    }

    private static ProtoDesk fedWith(int many) {
        ProtoDesk desk = new ProtoDesk();
        for (int left = many; left > 0; left -= 8) {
            desk.feed(0, Math.min(left, 8));
        }
        return desk;
    }

    /** "IllegalStateException: there would be more than 700" */
    private static void feedUpTo700() {
        for (int n = 1; n <= 8; n++) {
            int many = n;
            Expect.same("700 with the last " + n, 700, fedWith(700 - n).feed(0, n));
            ProtoDesk desk = fedWith(701 - n);
            Expect.state("701 with the last " + n, () -> desk.feed(0, many));
        }
        ProtoDesk full = fedWith(700);
        Expect.argument("no byte on a full tape", () -> full.feed(0, 0));
        Expect.argument("nine bytes on a full tape", () -> full.feed(0, 9));
    }

    private static void refusedFeedChangesNothing() {
        ProtoDesk desk = fedWith(695);
        Expect.state("703", () -> desk.feed(0, 8));
        Expect.same("695 stayed", 700, desk.feed(0, 5));
        Expect.state("701", () -> desk.feed(0, 1));
        desk.find(0);
        desk.feed(0, 3);
        Expect.argument("nine", () -> desk.feed(0, 9));
        Expect.same("three stayed", 4, desk.feed(0, 1));
    }

    /** "The latest error's place; -1 when compile() gave none, or was not called." */
    private static void placeIsOfTheLatestCompile() {
        Desk d = new Desk();
        Expect.same("not called", -1, d.desk.place());
        Expect.argument("no such schema", () -> d.desk.compile(2));
        Expect.same("still not called", -1, d.desk.place());
        d.text("      x").desk.compile(1);
        Expect.same("an error", 6, d.desk.place());
        d.text("   x").desk.compile(0);
        Expect.same("a later one", 3, d.desk.place());
        Expect.argument("no such schema", () -> d.desk.compile(2));
        Expect.argument("wrong bytes", () -> d.desk.decode(0, 0, 1));
        Expect.same("other calls leave it", 3, d.desk.place());
        d.schema(1, "message A {}");
        Expect.same("a text without an error", -1, d.desk.place());
    }

    private static void manyTakesThreeQuestions() {
        ProtoDesk desk = new ProtoDesk();
        for (int schema = -3; schema <= 4; schema++) {
            for (int what = -3; what <= 5; what++) {
                boolean right = (schema == 0 || schema == 1) && what >= 0 && what <= 2;
                int s = schema;
                int w = what;
                Expect.same("many(" + s + ", " + w + ")", right ? "0" : "IllegalArgumentException",
                        tried(() -> desk.many(s, w)));
            }
        }
    }

    /** "Up to eight bytes of OUT from place k on (those beyond it 0), the first one highest." */
    private static void outGivesZerosBeyondItsEnd() {
        for (int size = 2; size <= 17; size++) {
            Desk d = new Desk().schema("message A {}");
            String bytes = "\012" + (char) (size - 2) + "\376".repeat(size - 2);
            d.text(bytes).decode(0, 1);
            Expect.same("encode", bytes.length(), d.desk.encode());
            for (int k = 0; k < bytes.length(); k++) {
                long due = 0;
                for (int j = k; j < k + 8; j++) {
                    due = due << 8 | (j < bytes.length() ? bytes.charAt(j) : 0);
                }
                Expect.same("out(" + k + ") of " + size, due, d.desk.out(k));
            }
        }
    }

    /** "IndexOutOfBoundsException: k is not a place of it." */
    private static void outTakesPlacesOfItAlone() {
        Desk d = new Desk().schema("message A {}");
        d.text("\012\007\0\0\0\0\0\0\0").decode(0, 1);
        Expect.same("encode", 9, d.desk.encode());
        for (int k = -10; k < 30; k++) {
            int at = k;
            String answer = tried(() -> d.desk.out(at));
            Expect.yes("out(" + k + ") answered " + answer,
                    answer.equals("IndexOutOfBoundsException") == (k < 0 || k >= 9));
        }
        for (int k : new int[] {Integer.MIN_VALUE, Integer.MIN_VALUE + 7, Integer.MAX_VALUE - 7, Integer.MAX_VALUE}) {
            Expect.same("out(" + k + ")", "IndexOutOfBoundsException", tried(() -> d.desk.out(k)));
        }
    }

    /** "IllegalStateException: more than 700." */
    private static void turnTakesUpTo700() {
        for (int size = 698; size <= 702; size++) {
            Desk d = new Desk().schema("message A { bytes b = 1; }");
            int ends = size - 6 - 4 * 170;
            String bytes = "\001".repeat(170) + "x".repeat(ends);
            d.text("\012" + (char) (bytes.length() & 127 | 128) + (char) (bytes.length() >> 7) + bytes).decode(0, 1);
            Expect.same("print", size, d.desk.print());
            Expect.same("turn of " + size, size <= 700 ? Integer.toString(size) : "IllegalStateException",
                    tried(d.desk::turn));
        }
    }

    private static void turnReplacesTheTape() {
        Desk d = new Desk().schema("message A { int32 a = 1; }");
        d.hex("08 05").decode(0, 1);
        d.desk.encode();
        d.text("a longer text than OUT has bytes");
        Expect.same("turn", 2, d.desk.turn());
        Expect.same("the tape goes on behind it", 4, d.desk.feed(0x0807, 2));
        Expect.same("decode", "1", d.decode(0, 1));
        Expect.same("its bytes were OUT's and these", "08 07", d.encoded());
        Expect.argument("check empties OUT", () -> d.desk.check(0, 0));
        Expect.same("turn of nothing", 0, d.text("left").desk.turn());
        Expect.same("nothing is left", 1, d.desk.feed(0, 1));
    }

    /** "An object is used for at most 512 calls after it has been made" */
    private static void anObjectLivesFor512Calls() {
        Desk d = new Desk();
        ProtoDesk desk = d.desk;
        int calls = 0;
        for (int round = 0; round < 26; round++) {
            int fed = desk.feed(0, 8) + desk.feed(0, 8);
            Expect.same("round " + round + " fed", 24, fed);
            Expect.same("an error", 1, desk.compile(1));
            String text = "syntax=\"proto3\";message A{repeated A a=1;}";
            d.text(text);
            calls += 3 + (text.length() + 7) / 8;
            Expect.same("no error", 0, desk.compile(0));
            d.text("a{a{}}a{}");
            Expect.same("values", 3, desk.parse(0, 0, 3));
            Expect.same("bytes", 6, desk.encode());
            Expect.same("OUT", 0x0A020A000A000000L, desk.out(0));
            Expect.same("turned", 6, desk.turn());
            Expect.same("values again", 3, desk.decode(0, 0, 3));
            Expect.same("text", 22, desk.print());
            Expect.argument("no check", () -> desk.check(0, 0));
            calls += 10;
        }
        for (; calls < 512; calls++) {
            Expect.same("the last calls", 1, desk.many(0, 0));
        }
    }
}
