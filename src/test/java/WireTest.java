/** Promises 8 (decode) and 10 (encode). */
public final class WireTest {
    private static final String ALL = "message A { int32 a=1;int64 b=2;uint32 c=3;uint64 d=4;sint32 e=5;sint64 f=6;"
            + "fixed32 g=7;fixed64 h=8;sfixed32 i=9;sfixed64 j=10;bool k=11;string l=12;bytes m=13;A n=14;E o=15;}"
            + "enum E { Z=0; Y=1; }";
    private static final String ROWS = "message A { repeated int32 a=1;repeated sint64 b=2;repeated fixed32 c=3;"
            + "repeated fixed64 d=4;repeated bool e=5;repeated string f=6;repeated bytes g=7;repeated A h=8;"
            + "repeated E i=9;repeated int32 j=10[packed=false];repeated fixed32 k=11[packed=false];}"
            + "enum E { Z=0; Y=1; }";

    public static void main(String[] args) {
        numbers();
        lowestBits();
        nothing();
        texts();
        utf8();
        order();
        lastCounts();
        unknown();
        unknownInMessages();
        wrongTags();
        notAllThere();
        rows();
        packedRows();
        wrongPackedRows();
        messages();
        merging();
        oneofs();
        oneofMessages();
        depth();
        wrongCalls();
        limits();
        encodeTwice();
        longEncodings();
        Expect.end();
    }

    /** Decodes bytes as message 0 of a schema, then encodes them: how many values, and the bytes. */
    private static void both(String schema, String hex, String many, String again) {
        Desk d = new Desk().schema(schema).hex(hex);
        Expect.same("decode of " + hex, many, d.decode(0, 20));
        Expect.same("encode of " + hex, again, d.encoded());
    }

    private static void all(String hex, String many, String again) {
        both(ALL, hex, many, again);
    }

    private static void same(String schema, String hex, int many) {
        both(schema, hex, Integer.toString(many), hex);
    }

    private static void wrong(String schema, String hex) {
        both(schema, hex, "IllegalArgumentException", "IllegalStateException");
    }

    private static void numbers() {
        same(ALL, "", 0);
        same(ALL, "08 01", 1);
        same(ALL, "08 ff ff ff ff ff ff ff ff ff 01", 1);
        same(ALL, "08 80 80 80 80 f8 ff ff ff ff 01", 1);
        same(ALL, "10 ff ff ff ff ff ff ff ff 7f", 1);
        same(ALL, "18 ff ff ff ff 0f", 1);
        same(ALL, "20 ff ff ff ff ff ff ff ff ff 01", 1);
        same(ALL, "28 01", 1);
        same(ALL, "28 ff ff ff ff 0f", 1);
        same(ALL, "30 ff ff ff ff ff ff ff ff ff 01", 1);
        same(ALL, "3d ff fe fd fc", 1);
        same(ALL, "41 01 02 03 04 05 06 07 ff", 1);
        same(ALL, "4d ff ff ff ff", 1);
        same(ALL, "51 ff ff ff ff ff ff ff ff", 1);
        same(ALL, "58 01", 1);
        same(ALL, "78 ff ff ff ff ff ff ff ff ff 01", 1);
        same(ALL, "78 07", 1);
    }

    private static void lowestBits() {
        all("08 ff ff ff ff 0f", "1", "08 ff ff ff ff ff ff ff ff ff 01");
        all("08 81 80 80 80 f0 7f", "1", "08 01");
        all("08 80 80 80 80 10", "0", "");
        all("18 ff ff ff ff ff ff ff ff ff 01", "1", "18 ff ff ff ff 0f");
        all("18 80 80 80 80 10", "0", "");
        all("28 82 80 80 80 10", "1", "28 02");
        all("28 ff ff ff ff ff 0f", "1", "28 ff ff ff ff 0f");
        all("78 ff ff ff ff 0f", "1", "78 ff ff ff ff ff ff ff ff ff 01");
        all("58 80 80 80 80 80 80 80 80 80 01", "1", "58 01");
        all("58 ff 7f", "1", "58 01");
        all("58 80 80 80 80 80 80 80 80 80 02", "0", "");
        all("10 81 80 80 80 80 80 80 80 80 7e", "1", "10 01");
        all("10 80 80 80 80 80 80 80 80 80 7f", "1", "10 80 80 80 80 80 80 80 80 80 01");
        all("08 81 80 80 00", "1", "08 01");
    }

    private static void nothing() {
        String zeros = "08 00 10 00 18 00 20 00 28 00 30 00 3d 00 00 00 00 41 00 00 00 00 00 00 00 00 4d 00 00 00 00 "
                + "51 00 00 00 00 00 00 00 00 58 00 62 00 6a 00 78 00";
        all(zeros, "0", "");
        all("72 00", "1", "72 00");
        all("72 02 08 00", "1", "72 00");
        all("08 05 08 00", "0", "");
        all("62 01 41 62 00", "0", "");
        all("08 00 08 05", "1", "08 05");
    }

    private static void texts() {
        same(ALL, "62 03 41 42 43", 1);
        same(ALL, "6a 03 ff 00 80", 1);
        same(ALL, "62 01 00", 1);
        all("62 02 41 42 62 01 43", "1", "62 01 43");
        all("62 81 80 00 41", "1", "62 01 41");
        String long127 = "62 7f" + " 61".repeat(127);
        same(ALL, long127, 1);
        same(ALL, "62 80 01" + " 61".repeat(128), 1);
        same(ALL, "6a b9 05" + " 80".repeat(697), 1);
    }

    private static void utf8() {
        String[] right = {"7f", "c2 80", "df bf", "e0 a0 80", "ed 9f bf", "ee 80 80", "ef bf bf", "f0 90 80 80",
            "f4 8f bf bf", "f1 80 80 80", "41 c3 a4 e2 82 ac f0 9f 98 80 42", "00"};
        String[] bad = {"80", "bf", "c0 80", "c1 bf", "c2", "c2 41", "c2 c2", "e0 9f bf", "e0 a0", "e0 80 80",
            "ed a0 80", "ed bf bf", "ef bf", "ef bf 41", "f0 8f bf bf", "f0 90 80", "f0 90 80 41", "f4 90 80 80",
            "f5 80 80 80", "f8 88 80 80 80", "fe", "ff", "c3 a4 a4", "e2 28 a1", "e2 82 28", "f0 28 8c bc",
            "f0 90 28 bc", "f7 bf bf bf"};
        for (String text : right) {
            int size = Desk.unhex(text).length();
            same(ALL, String.format("62 %02x ", size) + text, 1);
        }
        for (String text : bad) {
            int size = Desk.unhex(text).length();
            wrong(ALL, String.format("62 %02x ", size) + text);
            same(ALL, String.format("6a %02x ", size) + text, 1);
            wrong(ALL, String.format("62 %02x ", size) + text + " 62 00");
            wrong("message A { repeated string a=1; }", String.format("0a %02x ", size) + text);
        }
        wrong(ALL, "62 01 c3 62 01 a4");
        // What follows would end the sequence, but is not of the text.
        wrong(ALL, "62 01 c3 82 01 00");
        wrong(ALL, "62 02 e2 82 82 01 00");
        wrong("message A { oneof x { string a=1; int32 b=2; } }", "0a 01 ff 10 01");
    }

    private static void order() {
        all("78 01 58 01 08 01", "3", "08 01 58 01 78 01");
        both("message A { int32 a=536870911;int32 b=1;int32 c=16;int32 d=15;int32 e=2048;int32 f=2047; }",
                "f8 ff ff ff 0f 01 08 02 80 01 03 78 04 80 80 01 05 f8 7f 06", "6",
                "08 02 78 04 80 01 03 f8 7f 06 80 80 01 05 f8 ff ff ff 0f 01");
    }

    private static void lastCounts() {
        all("08 01 08 02", "1", "08 02");
        all("08 01 10 03 08 02 10 04", "2", "08 02 10 04");
        all("3d 01 00 00 00 3d 02 00 00 00", "1", "3d 02 00 00 00");
    }

    private static void unknown() {
        same(ALL, "80 01 05", 0);
        same(ALL, "80 01 81 80 00", 0);
        same(ALL, "80 81 00 05", 0);
        same(ALL, "81 01 01 02 03 04 05 06 07 08", 0);
        same(ALL, "82 01 02 ff fe", 0);
        same(ALL, "82 01 82 00 ff fe", 0);
        same(ALL, "85 01 01 02 03 04", 0);
        same(ALL, "f8 ff ff ff 0f 00", 0);
        all("80 01 05 08 01 82 01 00", "1", "08 01 80 01 05 82 01 00");
        // Those of another kind than the field's are unknown, too.
        same(ALL, "09 01 02 03 04 05 06 07 08", 0);
        same(ALL, "0a 01 05", 0);
        same(ALL, "0d 01 02 03 04", 0);
        same(ALL, "38 01", 0);
        same(ALL, "39 01 02 03 04 05 06 07 08", 0);
        same(ALL, "45 01 02 03 04", 0);
        same(ALL, "60 01", 0);
        same(ALL, "70 01", 0);
        same(ALL, "7a 01 01", 0);
        same(ALL, "5d 01 02 03 04", 0);
        all("08 05 0d 01 02 03 04", "1", "08 05 0d 01 02 03 04");
        same(ROWS, "09 01 02 03 04 05 06 07 08", 0);
        same(ROWS, "18 01", 0);
        same(ROWS, "30 01", 0);
        same("message A {}", "08 01 12 03 01 02 03 1d 01 02 03 04", 0);
        all("88 80 80 80 00 05", "1", "08 05");
        all("88 80 80 80 80 80 80 80 80 00 05", "1", "08 05");
        all("88 80 80 80 80 80 80 80 80 02 05", "1", "08 05");
    }

    private static void unknownInMessages() {
        all("72 03 80 01 05 08 01", "2", "08 01 72 03 80 01 05");
        all("72 03 80 01 05 72 05 08 07 80 01 06", "2", "72 08 08 07 80 01 05 80 01 06");
        all("80 01 01 72 03 80 01 02 80 01 03", "1", "72 03 80 01 02 80 01 01 80 01 03");
    }

    private static void wrongTags() {
        wrong(ALL, "00 01");
        wrong(ALL, "07");
        wrong(ALL, "02 00");
        wrong(ALL, "05 01 02 03 04");
        wrong(ALL, "0b");
        wrong(ALL, "0b 0c");
        wrong(ALL, "0c");
        wrong(ALL, "0e 01");
        wrong(ALL, "0f 01");
        wrong(ALL, "83 01 84 01");
        wrong(ALL, "80 80 80 80 10 01");
        wrong(ALL, "88 80 80 80 10 01");
        wrong(ALL, "88 80 80 80 80 80 80 80 80 01 05");
        wrong(ALL, "80 00 01");
        wrong(ALL, "88 80 80 80 80 80 80 80 80 80 00 05");
    }

    private static void notAllThere() {
        wrong(ALL, "08");
        wrong(ALL, "80");
        wrong(ALL, "88");
        wrong(ALL, "08 80");
        wrong(ALL, "08 ff ff ff ff ff ff ff ff ff 80 00");
        wrong(ALL, "08 ff ff ff ff ff ff ff ff ff ff 01");
        wrong(ALL, "3d 01 02 03");
        wrong(ALL, "41 01 02 03 04 05 06 07");
        wrong(ALL, "62");
        wrong(ALL, "62 01");
        wrong(ALL, "62 03 41 42");
        wrong(ALL, "62 80");
        wrong(ALL, "62 ff ff ff ff 0f 41");
        wrong(ALL, "62 ff ff ff ff ff ff ff ff ff 01 41");
        wrong(ALL, "62 81 80 80 80 10 41");
        wrong(ALL, "82 01 ff ff ff ff ff ff ff ff 7f 41");
        wrong(ALL, "81 01 01 02 03 04 05 06 07");
        wrong(ALL, "85 01 01 02 03");
        wrong(ALL, "80 01");
        wrong(ALL, "72 01 08 01");
        wrong(ALL, "72 02 62 01 41");
        wrong(ALL, "72 02 3d 01 02 03 04");
        wrong(ALL, "72 03 62 02 41 42");
        all("62 81 80 80 80 80 80 80 80 80 02 41", "1", "62 01 41");
    }

    private static void rows() {
        both(ROWS, "08 01 08 00 08 02", "3", "0a 03 01 00 02");
        same(ROWS, "32 00 32 01 41 32 00", 3);
        same(ROWS, "3a 00 3a 01 ff", 2);
        same(ROWS, "42 00 42 02 42 00", 3);
        same(ROWS, "50 01 50 00 50 ff ff ff ff ff ff ff ff ff 01", 3);
        same(ROWS, "5d 01 02 03 04 5d 00 00 00 00", 2);
        both(ROWS, "08 01 50 07 08 02 50 08", "4", "0a 02 01 02 50 07 50 08");
    }

    private static void packedRows() {
        same(ROWS, "0a 0c 01 00 ff ff ff ff ff ff ff ff ff 01", 3);
        same(ROWS, "12 03 01 02 03", 3);
        same(ROWS, "1a 08 01 02 03 04 05 06 07 08", 2);
        same(ROWS, "22 08 01 02 03 04 05 06 07 08", 1);
        both(ROWS, "2a 04 00 02 ff 7f", "3", "2a 03 00 01 01");
        both(ROWS, "4a 06 05 ff ff ff ff 0f", "2", "4a 0b 05 ff ff ff ff ff ff ff ff ff 01");
        both(ROWS, "52 02 01 02", "2", "50 01 50 02");
        both(ROWS, "5a 08 01 00 00 00 02 00 00 00", "2", "5d 01 00 00 00 5d 02 00 00 00");
        both(ROWS, "0a 00 52 00", "0", "");
        both(ROWS, "0a 01 01 08 02 0a 02 03 04 08 05", "5", "0a 05 01 02 03 04 05");
        same(ROWS, "0a 80 01" + " 01".repeat(128), 128);
        both("message A { repeated sint32 a=1; }", "0a 07 01 02 ff ff ff ff 0f", "3", "0a 07 01 02 ff ff ff ff 0f");
        both("message A { repeated sint32 a=1; }", "0a 0a ff ff ff ff ff ff ff ff ff 01", "1", "0a 05 ff ff ff ff 0f");
        both("message A { repeated uint32 a=1; }", "0a 0a ff ff ff ff ff ff ff ff ff 01", "1", "0a 05 ff ff ff ff 0f");
        both("message A { repeated uint64 a=1; }", "08 ff ff ff ff ff ff ff ff ff 01", "1",
                "0a 0a ff ff ff ff ff ff ff ff ff 01");
    }

    private static void wrongPackedRows() {
        wrong(ROWS, "0a 02 01 80");
        wrong(ROWS, "0a 01 80 01");
        wrong(ROWS, "1a 03 01 02 03");
        wrong(ROWS, "1a 05 01 02 03 04 05");
        wrong(ROWS, "22 04 01 02 03 04");
        wrong(ROWS, "5a 02 01 02 03 04");
        wrong(ROWS, "0a 0b ff ff ff ff ff ff ff ff ff ff 01");
        wrong(ROWS, "0a 05 01 02");
    }

    private static void messages() {
        same(ALL, "72 02 08 01", 2);
        same(ALL, "72 04 72 02 08 01", 3);
        both(ALL, "72 06 78 01 08 02 58 00", "3", "72 04 08 02 78 01");
        same(ALL, "72 80 01 62 7e" + " 61".repeat(126), 2);
        same(ROWS, "42 03 0a 01 05 42 00 42 03 0a 01 06", 5);
        both(ALL, "72 82 80 00 08 01", "2", "72 02 08 01");
    }

    private static void merging() {
        all("72 02 08 01 72 02 10 02", "3", "72 04 08 01 10 02");
        all("72 02 08 01 72 02 08 02", "2", "72 02 08 02");
        all("72 02 08 01 72 02 08 00", "1", "72 00");
        all("72 02 08 01 72 00", "2", "72 02 08 01");
        all("72 04 72 02 08 01 72 04 72 02 10 02", "4", "72 06 72 04 08 01 10 02");
        both("message A { B b=1; } message B { repeated int32 r=1; repeated B s=2; string t=3; }",
                "0a 03 0a 01 01 0a 09 08 02 12 00 1a 01 41 10 07 0a 07 0a 01 03 12 02 08 04", "8",
                "0a 11 0a 03 01 02 03 12 00 12 03 0a 01 04 1a 01 41 10 07");
    }

    private static void oneofs() {
        String schema = "message A { oneof x { int32 a=1; string b=2; A c=3; E e=6; bytes f=7; bool g=8; } "
                + "oneof y { int32 d=4; } int32 z=5; } enum E { Z=0; }";
        same(schema, "08 00", 1);
        same(schema, "12 00", 1);
        same(schema, "30 00", 1);
        same(schema, "3a 00", 1);
        same(schema, "40 00", 1);
        same(schema, "1a 00", 1);
        same(schema, "08 00 20 00", 2);
        both(schema, "08 05 12 01 41", "1", "12 01 41");
        both(schema, "12 01 41 08 00", "1", "08 00");
        both(schema, "08 05 20 07 28 01 1a 00", "3", "1a 00 20 07 28 01");
        both(schema, "1a 02 08 01 08 05 1a 02 20 01", "2", "1a 02 20 01");
        both(schema, "08 05 12 00 1a 00 30 07 3a 01 ff 40 01 08 06", "1", "08 06");
        String behind = "message A { int32 z=1; oneof x { int32 a=2; int32 b=4; int32 c=6; } int32 y=3; int32 w=5; }";
        both(behind, "08 05 10 01 20 02", "2", "08 05 20 02");
        both(behind, "08 05 10 01 18 07 20 02 28 09 30 03", "4", "08 05 18 07 28 09 30 03");
        both(behind, "08 05 18 07 28 09 30 03 98 06 01 10 01", "4", "08 05 10 01 18 07 28 09 98 06 01");
        both(behind, "08 05 30 03 20 02 08 06 28 01", "3", "08 06 20 02 28 01");
        // What is of another kind is unknown, and takes nothing away.
        both(schema, "12 01 41 0a 01 07", "1", "12 01 41 0a 01 07");
    }

    private static void oneofMessages() {
        String schema = "message A { oneof x { A a=1; A b=2; } int32 c=3; }";
        both(schema, "0a 02 18 01 0a 00", "2", "0a 02 18 01");
        both(schema, "0a 02 18 01 12 00", "1", "12 00");
        both(schema, "0a 02 18 01 12 00 0a 00", "1", "0a 00");
        both(schema, "0a 04 0a 02 18 01 0a 02 12 00", "2", "0a 02 12 00");
    }

    private static void depth() {
        Desk d = new Desk().schema(ALL);
        d.hex("72 02 72 00");
        Expect.same("three deep, limit 3", "2", d.decode(0, 3));
        d.hex("72 02 72 00");
        Expect.same("three deep, limit 2", "IllegalArgumentException", d.decode(0, 2));
        d.hex("72 00");
        Expect.same("two deep, limit 1", "IllegalArgumentException", d.decode(0, 1));
        d.hex("08 01");
        Expect.same("one deep, limit 1", "1", d.decode(0, 1));
        d.hex("82 01 02 72 00");
        Expect.same("unknown bytes are not looked into", "0", d.decode(0, 1));
        String nested = "";
        for (int k = 0; k < 19; k++) {
            nested = "\162" + (char) nested.length() + nested;
        }
        d.text(nested);
        Expect.same("twenty deep", "19", d.decode(0, 20));
        Expect.same("encoded", Desk.hexOf(nested), d.encoded());
        d.text(nested);
        Expect.same("twenty deep, limit 19", "IllegalArgumentException", d.decode(0, 19));
        String filled = "\010\001";
        for (int k = 0; k < 19; k++) {
            filled = "\162" + (char) filled.length() + filled;
        }
        d.text(filled);
        Expect.same("a value twenty deep", "20", d.decode(0, 20));
        Expect.same("it is encoded", Desk.hexOf(filled), d.encoded());
        Expect.yes("it is printed", d.printed().contains("\n" + "  ".repeat(19) + "a: 1\n"));
        d.text("\162" + (char) nested.length() + nested);
        Expect.same("21 deep", "IllegalArgumentException", d.decode(0, 20));
        Expect.same("there is no value then", "IllegalStateException", d.encoded());
    }

    private static void wrongCalls() {
        Desk d = new Desk().schema(ALL);
        int[][] calls = {{-1, 0, 1}, {2, 0, 1}, {1, 0, 1}, {0, -1, 1}, {0, 1, 1}, {0, 0, 0}, {0, 0, 21}, {0, 0, -1},
            {0, Integer.MAX_VALUE, 1}, {0, Integer.MIN_VALUE, 1}, {0, 0, Integer.MAX_VALUE}, {0, 0, Integer.MIN_VALUE},
            {Integer.MAX_VALUE, 0, 1}, {Integer.MIN_VALUE, 0, 1}};
        for (int[] call : calls) {
            d.hex("08 01").decode(0, 1);
            Expect.same("a value", "08 01", d.encoded());
            d.hex("08 02");
            Expect.argument("a wrong call", () -> d.desk.decode(call[0], call[1], call[2]));
            Expect.state("there is no value then", d.desk::encode);
            Expect.same("the tape was used", 1, d.desk.feed(0, 1));
            d.desk.find(0);
        }
        d.hex("08 01").decode(0, 1);
        Expect.same("the tape is empty after a right call, too", "0", d.decode(0, 1));
        Expect.same("and the value an empty one", "", d.encoded());
        d.schema(1, "message B { int32 b=3; } message C { int32 c=4; }");
        d.hex("20 05");
        Expect.same("another schema's message", 1, d.desk.decode(1, 1, 1));
        Expect.same("its text", "c: 5\n", d.printed());
    }

    private static void limits() {
        Desk d = new Desk().schema(ROWS);
        d.hex("0a c8 01" + " 00".repeat(200));
        Expect.same("200 values", "200", d.decode(0, 1));
        d.hex("0a c9 01" + " 00".repeat(201));
        Expect.same("201 values", "IllegalStateException", d.decode(0, 1));
        Expect.same("there is no value then", "IllegalStateException", d.encoded());
        Expect.same("and no tape", 1, d.desk.feed(0, 1));
        d.desk.find(0);
        d.hex("0a c9 01" + " 00".repeat(201) + " 08");
        Expect.same("beyond the limits and wrong", "IllegalArgumentException", d.decode(0, 1));
        d.hex("0a b9 05" + " 07".repeat(697));
        Expect.same("697 values", "IllegalStateException", d.decode(0, 1));
        limitsOfMessages();
        whatDoesNotCount();
    }

    private static void limitsOfMessages() {
        Desk d = new Desk().schema(ROWS);
        d.hex("42 00 ".repeat(200));
        Expect.same("200 messages", "200", d.decode(0, 2));
        d.hex("42 00 ".repeat(201));
        Expect.same("201 messages", "IllegalStateException", d.decode(0, 2));
        d.hex("42 00 ".repeat(199) + "42 03 0a 01 00");
        Expect.same("200 messages and a value", "IllegalStateException", d.decode(0, 2));
        d.hex("42 00 ".repeat(198) + "42 03 0a 01 00");
        Expect.same("199 messages and a value", "200", d.decode(0, 2));
    }

    private static void whatDoesNotCount() {
        Desk d = new Desk().schema(ROWS);
        d.hex("62 00 ".repeat(350));
        Expect.same("unknown bytes do not count", "0", d.decode(0, 1));
        Expect.same("all of them are there", 700, d.desk.encode());
        d.schema(ALL);
        d.hex("08 01 ".repeat(350));
        Expect.same("350 times the same field", "1", d.decode(0, 1));
        d.hex("72 00 ".repeat(350));
        Expect.same("350 times the same message", "1", d.decode(0, 2));
        d.schema("message A { oneof x { int32 a=1; int32 b=2; } }");
        d.hex("08 01 10 02 ".repeat(175));
        Expect.same("a oneof has one", "1", d.decode(0, 1));
        Expect.same("the last", "10 02", d.encoded());
    }

    private static void encodeTwice() {
        Desk d = new Desk().schema(ALL).hex("08 05 80 01 01");
        d.decode(0, 1);
        Expect.same("encode", 5, d.desk.encode());
        Expect.same("encode again", 5, d.desk.encode());
        Expect.same("the same", "08 05 80 01 01", d.outHex());
        d.hex("99");
        Expect.same("a wrong tape", "IllegalArgumentException", d.decode(0, 1));
        Expect.state("no value", d.desk::encode);
        Expect.same("OUT is empty", "", d.outHex());
    }

    private static void longEncodings() {
        Desk d = new Desk().schema("message A { repeated int32 a=536870911[packed=false]; repeated int32 b=5; }");
        d.hex("fa ff ff ff 0f b3 05" + " ff ff ff ff 0f".repeat(138) + " 01");
        Expect.same("139 values", "139", d.decode(0, 1));
        Expect.same("fifteen bytes each", 138 * 15 + 6, d.desk.encode());
        d.hex("2a b6 05" + " ff ff ff ff 0f".repeat(138) + " 01".repeat(4));
        Expect.same("142 values", "142", d.decode(0, 1));
        Expect.same("a length of two bytes", 3 + 1380 + 4, d.desk.encode());
        Expect.same("a length of 1384", 0x2ae80aL << 40 | 0xFFFFFFFFFFL, d.desk.out(0));
    }
}
