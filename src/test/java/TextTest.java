/** Promises 9 (parse) and 11 (print). */
public final class TextTest {
    private static final String ALL = "message A { int32 a=1;int64 b=2;uint32 c=3;uint64 d=4;sint32 e=5;sint64 f=6;"
            + "fixed32 g=7;fixed64 h=8;sfixed32 i=9;sfixed64 j=10;bool k=11;string l=12;bytes m=13;A n=14;E o=15;"
            + "repeated int32 r=16;repeated A s=17;oneof x { int32 y=18;string z=19;A w=20; } repeated E v=21;"
            + "repeated string u=22; repeated bool t=23; } enum E { Z=0; Y=1; X=-1; YY=1; M=-2147483648; }";

    public static void main(String[] args) {
        printNumbers();
        printTexts();
        printEnumsAndBools();
        printMessages();
        printNothing();
        printOrder();
        printOfTooMuch();
        parseNumbers();
        wrongNumbers();
        parseTexts();
        wrongTexts();
        parseEnumsAndBools();
        parseMessages();
        blanksAndComments();
        onceOrOften();
        wrongWords();
        depth();
        wrongCalls();
        limits();
        thereAndBack();
        Expect.end();
    }

    private static void prints(String hex, String text) {
        Desk d = new Desk().schema(ALL).hex(hex);
        d.decode(0, 20);
        Expect.same("print of " + hex, text, d.printed());
    }

    private static void printNumbers() {
        prints("08 00", "");
        prints("08 7b", "a: 123\n");
        prints("08 ff ff ff ff ff ff ff ff ff 01", "a: -1\n");
        prints("08 80 80 80 80 f8 ff ff ff ff 01", "a: -2147483648\n");
        prints("10 80 80 80 80 80 80 80 80 80 01", "b: -9223372036854775808\n");
        prints("10 ff ff ff ff ff ff ff ff 7f", "b: 9223372036854775807\n");
        prints("18 ff ff ff ff 0f", "c: 4294967295\n");
        prints("20 ff ff ff ff ff ff ff ff ff 01", "d: 18446744073709551615\n");
        prints("20 80 80 80 80 80 80 80 80 80 01", "d: 9223372036854775808\n");
        prints("28 ff ff ff ff 0f", "e: -2147483648\n");
        prints("28 fe ff ff ff 0f", "e: 2147483647\n");
        prints("28 03", "e: -2\n");
        prints("30 ff ff ff ff ff ff ff ff ff 01", "f: -9223372036854775808\n");
        prints("30 fe ff ff ff ff ff ff ff ff 01", "f: 9223372036854775807\n");
        prints("3d ff ff ff ff", "g: 4294967295\n");
        prints("41 ff ff ff ff ff ff ff ff", "h: 18446744073709551615\n");
        prints("4d ff ff ff ff", "i: -1\n");
        prints("4d 00 00 00 80", "i: -2147483648\n");
        prints("51 fe ff ff ff ff ff ff ff", "j: -2\n");
        prints("51 00 00 00 00 00 00 00 80", "j: -9223372036854775808\n");
        prints("20 0a", "d: 10\n");
        prints("20 80 c8 af a0 25", "d: 10000000000\n");
    }

    private static void printTexts() {
        prints("62 03 41 20 7e", "l: \"A ~\"\n");
        prints("6a 05 0a 0d 09 22 5c", "m: \"\\n\\r\\t\\\"\\\\\"\n");
        prints("6a 01 27", "m: \"'\"\n");
        prints("6a 06 00 01 1f 7f 80 ff", "m: \"\\000\\001\\037\\177\\200\\377\"\n");
        prints("62 02 c3 a4", "l: \"\\303\\244\"\n");
        prints("6a 03 00 31 32", "m: \"\\00012\"\n");
        prints("6a 04 07 08 0b 0c", "m: \"\\007\\010\\013\\014\"\n");
    }

    private static void printEnumsAndBools() {
        prints("58 01", "k: true\n");
        prints("78 01", "o: Y\n");
        prints("78 02", "o: 2\n");
        prints("78 ff ff ff ff ff ff ff ff ff 01", "o: X\n");
        prints("78 fe ff ff ff ff ff ff ff ff 01", "o: -2\n");
        prints("78 80 80 80 80 f8 ff ff ff ff 01", "o: M\n");
        prints("aa 01 03 00 01 05", "v: Z\nv: Y\nv: 5\n");
        prints("ba 01 02 00 01", "t: false\nt: true\n");
    }

    private static void printMessages() {
        prints("72 00", "n {\n}\n");
        prints("72 02 08 01", "n {\n  a: 1\n}\n");
        prints("72 06 72 02 08 01 10 02", "n {\n  b: 2\n  n {\n    a: 1\n  }\n}\n");
        prints("8a 01 00 8a 01 02 08 01", "s {\n}\ns {\n  a: 1\n}\n");
    }

    private static void printNothing() {
        prints("", "");
        prints("98 02 05", "");
        prints("72 03 98 02 05 08 01 0a 01 01", "a: 1\nn {\n}\n");
        prints("08 05 08 00 62 00", "");
        prints("90 01 00", "y: 0\n");
        prints("9a 01 00", "z: \"\"\n");
        prints("b2 01 00 82 01 01 00", "r: 0\nu: \"\"\n");
    }

    private static void printOrder() {
        prints("82 01 02 05 06 62 01 41 08 01 80 01 07", "a: 1\nl: \"A\"\nr: 5\nr: 6\nr: 7\n");
    }

    private static void printOfTooMuch() {
        Desk d = new Desk().schema("message A { bytes bb=1; repeated bool t=2; A a=3; }");
        // Each row's value in a name of its own is seven or eight bytes; bytes are four each.
        d.text("\012\203\005" + "\001".repeat(643) + "\022\004\0\0\0\0").decode(0, 1);
        Expect.same("less than 4,000", 643 * 4 + 7 + 4 * 9, d.desk.print());
        String deep = "\022\002\0\0";
        for (int k = 0; k < 18; k++) {
            deep = "\032" + (char) deep.length() + deep;
        }
        Expect.same("a deep one", 40, deep.length());
        d.text(deep + "\012\216\005" + "\001".repeat(654)).decode(0, 20);
        int some = d.desk.print();
        Expect.same("its length", 18 * 17 / 2 * 4 + 18 * (4 + 2) + 2 * (36 + 9) + 654 * 4 + 7, some);
        tooMuch();
    }

    /** A text of exactly 4,000 bytes, and one of more. */
    private static void tooMuch() {
        String schema = "message A { repeated bool " + "t".repeat(26) + "=2; bytes b=1; }";
        Desk d = new Desk().schema(schema);
        // 114 lines of 34 or 35 bytes; the bytes fill up the rest.
        String rows = "\022\162" + "\001".repeat(114);
        Expect.same("bytes of the lines", 3762, 114 * 33);
        d.text(rows + "\012\071" + "\001".repeat(57)).decode(0, 1);
        Expect.same("3996 and less", 3762 + 57 * 4 + 6, d.desk.print());
        d.text(rows + "\012\073" + "\001".repeat(58) + "a").decode(0, 1);
        Expect.same("a bit too much", "UnsupportedOperationException", Expect.answer(d.desk::print));
        Expect.same("OUT is empty", "", d.outHex());
        Expect.same("the value stays", 114 + 2 + 2 + 59, d.desk.encode());
        d.text(rows + "\012\072" + "\001".repeat(58)).decode(0, 1);
        Expect.same("4,000", 4000, d.desk.print());
        Expect.same("the last byte", 0x0A00000000000000L, d.desk.out(3999));
        d.text(rows + "\012\072" + "\001".repeat(57) + "\000\022\001\000").decode(0, 1);
        Expect.same("much too much", "UnsupportedOperationException", Expect.answer(d.desk::print));
        Expect.same("again", "UnsupportedOperationException", Expect.answer(d.desk::print));
    }

    /** Parses a text as message 0, then encodes it: how many values, and the bytes. */
    private static void both(String text, String many, String bytes) {
        Desk d = new Desk().schema(ALL).text(text);
        Expect.same("parse of " + text, many, d.parse(0, 20));
        Expect.same("encode of " + text, bytes, d.encoded());
    }

    private static void wrong(String text) {
        both(text, "IllegalArgumentException", "IllegalStateException");
    }

    private static void parseNumbers() {
        both("", "0", "");
        both("a:1", "1", "08 01");
        both("a: 0", "0", "");
        both("a: -0", "0", "");
        both("a: 007", "1", "08 07");
        both("a: -00000000000000000000000000000000001", "1", "08 ff ff ff ff ff ff ff ff ff 01");
        both("a: 2147483647", "1", "08 ff ff ff ff 07");
        both("a: -2147483648", "1", "08 80 80 80 80 f8 ff ff ff ff 01");
        both("b: 9223372036854775807", "1", "10 ff ff ff ff ff ff ff ff 7f");
        both("b: -9223372036854775808", "1", "10 80 80 80 80 80 80 80 80 80 01");
        both("c: 4294967295", "1", "18 ff ff ff ff 0f");
        both("c: -0", "0", "");
        both("d: 18446744073709551615", "1", "20 ff ff ff ff ff ff ff ff ff 01");
        both("d: 00018446744073709551615", "1", "20 ff ff ff ff ff ff ff ff ff 01");
        both("d: -0", "0", "");
        both("e: -2147483648", "1", "28 ff ff ff ff 0f");
        both("e: 2147483647", "1", "28 fe ff ff ff 0f");
        both("f: -9223372036854775808", "1", "30 ff ff ff ff ff ff ff ff ff 01");
        both("g: 4294967295", "1", "3d ff ff ff ff");
        both("h: 18446744073709551615", "1", "41 ff ff ff ff ff ff ff ff");
        both("i: -2147483648", "1", "4d 00 00 00 80");
        both("j: -1", "1", "51 ff ff ff ff ff ff ff ff");
        both("r: 0 r: -1 r: 0", "3", "82 01 0c 00 ff ff ff ff ff ff ff ff ff 01 00");
        both("y: 0", "1", "90 01 00");
    }

    private static void wrongNumbers() {
        wrong("a: 2147483648");
        wrong("a: -2147483649");
        wrong("a: 4294967296");
        wrong("a: 18446744073709551616");
        wrong("b: 9223372036854775808");
        wrong("b: -9223372036854775809");
        wrong("b: 18446744073709551615");
        wrong("c: 4294967296");
        wrong("c: -1");
        wrong("d: 18446744073709551616");
        wrong("d: 18446744073709551620");
        wrong("d: 36893488147419103232");
        wrong("d: 184467440737095516150");
        wrong("d: -1");
        wrong("d: -18446744073709551615");
        wrong("e: 2147483648");
        wrong("f: 9223372036854775808");
        wrong("g: -1");
        wrong("g: 4294967296");
        wrong("h: -1");
        wrong("h: -9223372036854775808");
        wrong("i: 2147483648");
        wrong("j: 9223372036854775808");
        wrong("a: 1a");
        wrong("a: 1_");
        wrong("a: 0x1");
        wrong("a: 1b: 2");
        wrong("a: 1.0");
        wrong("a: 1e1");
        wrong("a: +1");
        wrong("a: --1");
        wrong("a: - 1");
        wrong("a: -");
        wrong("a: ");
        wrong("a: true");
        wrong("a: Y");
        wrong("a: \"1\"");
        wrong("a: {}");
        wrong("a: [1]");
        wrong("r: [1, 2]");
        wrong("o: 2147483648");
        wrong("o: -2147483649");
    }

    private static void parseTexts() {
        both("l: \"\"", "0", "");
        both("l: 'A'", "1", "62 01 41");
        both("l:\"'\"", "1", "62 01 27");
        both("l:'\"'", "1", "62 01 22");
        both("l: \"\\n\\r\\t\\\"\\\\\\'\"", "1", "62 06 0a 0d 09 22 5c 27");
        both("m: '\\000\\377\\1019\\0001'", "1", "6a 06 00 ff 41 39 00 31");
        both("l: \"\\303\\244\"", "1", "62 02 c3 a4");
        both("l: \" #{}:~\"", "1", "62 06 20 23 7b 7d 3a 7e");
        both("m: \"\\\\303\"", "1", "6a 04 5c 33 30 33");
        both("z: ''", "1", "9a 01 00");
        both("u: '' u: \"a\"u:'b'", "3", "b2 01 00 b2 01 01 61 b2 01 01 62");
        both("l:\"a\"a:1", "2", "08 01 62 01 61");
    }

    private static void wrongTexts() {
        wrong("l: \"");
        wrong("l: \"a");
        wrong("l: \"a'");
        wrong("l: 'a\"");
        wrong("l: \"\\\"");
        wrong("l: \"\\");
        wrong("l: a");
        wrong("l: 1");
        wrong("l: \"a\" \"b\"");
        wrong("l: \"\t\"");
        wrong("l: \"\n\"");
        wrong("l: \"\177\"");
        wrong("l: \"\303\244\"");
        wrong("m: \"\200\"");
        wrong("m: \"\\a\"");
        wrong("m: \"\\x41\"");
        wrong("m: \"\\0\"");
        wrong("m: \"\\00\"");
        wrong("m: \"\\08\"");
        wrong("m: \"\\008\"");
        wrong("m: \"\\400\"");
        wrong("m: \"\\777\"");
        wrong("m: \"\\?\"");
        wrong("m: \"\\N\"");
        wrong("m: \"\\01");
        wrong("l: \"\\200\"");
        wrong("l: \"\\355\\240\\200\"");
        wrong("l: \"\\300\\200\"");
        wrong("l: \"\\303\" l: \"\\244\"");
        wrong("u: \"\\303\" u: \"\\244\"");
        both("m: \"\\355\\240\\200\"", "1", "6a 03 ed a0 80");
    }

    private static void parseEnumsAndBools() {
        both("k: true", "1", "58 01");
        both("k: false", "0", "");
        both("t: false t: true", "2", "ba 01 02 00 01");
        both("o: Z", "0", "");
        both("o: Y", "1", "78 01");
        both("o: YY", "1", "78 01");
        both("o: X", "1", "78 ff ff ff ff ff ff ff ff ff 01");
        both("o: 77", "1", "78 4d");
        both("o: -2147483648", "1", "78 80 80 80 80 f8 ff ff ff ff 01");
        both("v: Z v: 5 v:Y", "3", "aa 01 03 00 05 01");
        wrong("k: 1");
        wrong("k: 0");
        wrong("k: True");
        wrong("k: t");
        wrong("k: truee");
        wrong("k: \"true\"");
        wrong("k:");
        wrong("k: -true");
        wrong("o: W");
        wrong("o: z");
        wrong("o: YYY");
        wrong("o: -Y");
        wrong("o: E");
        wrong("o: \"Y\"");
        wrong("o: E.Y");
        wrong("o: true");
    }

    private static void parseMessages() {
        both("n {}", "1", "72 00");
        both("n{a:1}", "2", "72 02 08 01");
        both("n { n { b: 2 } a: 1 }", "4", "72 06 08 01 72 02 10 02");
        both("s {} s { s {} }", "3", "8a 01 00 8a 01 03 8a 01 00");
        both("w { w { y: 0 } }", "3", "a2 01 06 a2 01 03 90 01 00");
        wrong("n");
        wrong("n {");
        wrong("n }");
        wrong("n: {}");
        wrong("n: 1");
        wrong("n <>");
        wrong("n { } }");
        wrong("}");
        wrong("{}");
        wrong("n { a: 1");
        wrong("n { { } }");
        wrong("a { }");
        wrong("n { a: 1 } ;");
    }

    private static void blanksAndComments() {
        both(" \t\r\n a \n : \r 1 \t", "1", "08 01");
        both("# c\na:# :\n1#", "1", "08 01");
        both("#", "0", "");
        both("##\n#a: 1\n", "0", "");
        both("n#{\n{#}\n}#", "1", "72 00");
        both("a: 1#b: 2\rc: 3\nd: 4", "2", "08 01 20 04");
        wrong("a: 1 // c");
        wrong("a: 1 /* c */");
        wrong("a:\0131");
        wrong("a:\f1");
        wrong("\0");
        wrong("a b: 1");
        wrong("a: -#\n1");
    }

    private static void onceOrOften() {
        wrong("a: 1 a: 2");
        wrong("a: 0 a: 0");
        wrong("a: 0 b: 1 a: 1");
        wrong("l: '' l: ''");
        wrong("n {} n {}");
        wrong("y: 1 y: 1");
        wrong("y: 0 z: ''");
        wrong("w {} y: 1");
        wrong("z: 'a' w {}");
        both("n { a: 1 } a: 1", "3", "08 01 72 02 08 01");
        both("n { y: 1 } z: 'a'", "3", "72 03 90 01 01 9a 01 01 61");
        both("r: 1 a: 5 r: 2", "3", "08 05 82 01 02 01 02");
        both("z: 'a' r: 1 a: 5", "3", "08 05 82 01 01 01 9a 01 01 61");
    }

    private static void wrongWords() {
        wrong("q: 1");
        wrong("q");
        wrong("a: 1 q");
        wrong("l:");
        wrong("a:");
        wrong("o:");
        wrong("a: 1 a");
        wrong("A: 1");
        wrong("x: 1");
        wrong("1: 1");
        wrong("aa: 1");
        wrong("_a: 1");
        wrong("a_: 1");
        wrong("a");
        wrong("a = 1");
        wrong("a 1");
        wrong(": 1");
        wrong("a:: 1");
        wrong("a: 1, b: 2");
        wrong("a: 1; b: 2");
        wrong("[a]: 1");
        wrong("\"a\": 1");
    }

    private static void depth() {
        Desk d = new Desk().schema(ALL);
        d.text("n { n { } }");
        Expect.same("three deep, limit 3", "2", d.parse(0, 3));
        d.text("n { n { } }");
        Expect.same("three deep, limit 2", "IllegalArgumentException", d.parse(0, 2));
        d.text("n{}");
        Expect.same("two deep, limit 1", "IllegalArgumentException", d.parse(0, 1));
        d.text("n{");
        Expect.same("two deep and not closed, limit 1", "IllegalArgumentException", d.parse(0, 1));
        d.text("a:1");
        Expect.same("one deep, limit 1", "1", d.parse(0, 1));
        d.text("n{".repeat(19) + "}".repeat(19));
        Expect.same("twenty deep", "19", d.parse(0, 20));
        d.text("n{".repeat(19) + "}".repeat(19));
        Expect.same("twenty deep, limit 19", "IllegalArgumentException", d.parse(0, 19));
        d.text("n{".repeat(20) + "}".repeat(20));
        Expect.same("21 deep", "IllegalArgumentException", d.parse(0, 20));
        d.text("n{".repeat(350));
        Expect.same("350 deep", "IllegalArgumentException", d.parse(0, 20));
        Expect.same("there is no value then", "IllegalStateException", d.printed());
    }

    private static void wrongCalls() {
        Desk d = new Desk().schema(ALL);
        int[][] calls = {{-1, 0, 1}, {2, 0, 1}, {1, 0, 1}, {0, -1, 1}, {0, 1, 1}, {0, 0, 0}, {0, 0, 21}, {0, 0, -1},
            {0, Integer.MAX_VALUE, 1}, {0, Integer.MIN_VALUE, 1}, {0, 0, Integer.MAX_VALUE}, {0, 0, Integer.MIN_VALUE},
            {Integer.MAX_VALUE, 0, 1}, {Integer.MIN_VALUE, 0, 1}};
        for (int[] call : calls) {
            d.text("a: 1").parse(0, 1);
            Expect.same("a value", "a: 1\n", d.printed());
            d.text("a: 2");
            Expect.argument("a wrong call", () -> d.desk.parse(call[0], call[1], call[2]));
            Expect.state("there is no value then", d.desk::print);
            Expect.same("the tape was used", 1, d.desk.feed(0, 1));
            d.desk.find(0);
        }
        d.text("a: 1").parse(0, 1);
        Expect.same("the tape is empty after a right call, too", "0", d.parse(0, 1));
        Expect.same("and the value an empty one", "", d.printed());
        d.schema(1, "message B { int32 b=3; } message C { E c=4; enum E { N=0; O=5; } }");
        d.text("c: O");
        Expect.same("another schema's message", 1, d.desk.parse(1, 1, 1));
        Expect.same("its bytes", "20 05", d.encoded());
        Expect.same("its text", "c: O\n", d.printed());
    }

    private static void limits() {
        Desk d = new Desk().schema("message A { repeated A a=1; repeated int32 b=2; int32 c=3; }");
        d.text("a{}".repeat(200));
        Expect.same("200 values", "200", d.parse(0, 2));
        Expect.same("print of 200 messages", 200 * 6, d.desk.print());
        d.text("a{}".repeat(201));
        Expect.same("201 values", "IllegalStateException", d.parse(0, 2));
        Expect.same("there is no value then", "IllegalStateException", d.encoded());
        d.text("a{}".repeat(201) + "a");
        Expect.same("beyond the limits and wrong", "IllegalArgumentException", d.parse(0, 2));
        limitsAndZeros();
    }

    private static void limitsAndZeros() {
        Desk d = new Desk().schema("message A { repeated A a=1; repeated int32 b=2; int32 c=3; }");
        d.text("a{}".repeat(200) + "c:0");
        Expect.same("a zero is no value", "200", d.parse(0, 2));
        d.text("a{}".repeat(200) + "c:1");
        Expect.same("a one is", "IllegalStateException", d.parse(0, 2));
        d.text("a{}".repeat(199) + "a{b:0}");
        Expect.same("a zero in a row is one", "IllegalStateException", d.parse(0, 2));
        d.text("a{}".repeat(198) + "a{b:0}");
        Expect.same("200 with it", "200", d.parse(0, 2));
    }

    private static void thereAndBack() {
        Desk d = new Desk().schema(ALL);
        String text = "a: -5\nb: 6\nc: 7\nd: 18446744073709551615\ne: -8\nf: -9\ng: 10\nh: 11\ni: -12\nj: -13\n"
                + "k: true\nl: \"\\303\\244'\\\"\"\nm: \"\\000\\377\"\nn {\n  n {\n    a: 1\n  }\n}\no: X\nr: 0\nr: 1\n"
                + "s {\n}\ns {\n  y: 0\n}\nz: \"\"\nv: Y\nv: 5\nu: \"\"\nu: \"x\"\nt: false\n";
        d.text(text);
        Expect.same("parse", "28", d.parse(0, 20));
        Expect.same("print", text, d.printed());
        String bytes = d.encoded();
        d.hex(bytes);
        Expect.same("decode", "28", d.decode(0, 20));
        Expect.same("print again", text, d.printed());
        Expect.same("encode again", bytes, d.encoded());
    }
}
