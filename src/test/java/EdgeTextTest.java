import java.math.BigInteger;

/**
 * The document's sentences about the text of a value that name an edge, a method each (the terms' part TEXT; promises
 * 9 and 11).
 */
public final class EdgeTextTest {
    private static final String WRONG = "IllegalArgumentException";
    private static final String ENUM = "enum E{Z=0;Y=1;X=-1;YY=1;W=5;}";
    private static final String[] NUMBER_TYPES = {"int32", "int64", "uint32", "uint64", "sint32", "sint64", "fixed32",
        "fixed64", "sfixed32", "sfixed64", "E"};

    public static void main(String[] args) {
        linesAreIndented();
        messagesArePrintedOnLines();
        fieldsArePrintedByRisingNumber();
        unknownBytesAreNotPrinted();
        nothingIsNotPrinted();
        boolsAreTrueOrFalse();
        enumsAreTheFirstName();
        everyByteOfATextIsPrinted();
        printedTextsAreParsed();
        blanksStandBetween();
        commentsStandBetween();
        fieldsInAnyOrder();
        namesAreWhole();
        messagesHaveBraces();
        otherFieldsHaveAColon();
        fieldsStandOnce();
        oneofsHaveOne();
        rowsStandOften();
        numbersAreInTheirRange();
        zerosInFrontAreRight();
        nothingStandsBehindANumber();
        aMinusStandsInFront();
        boolsAreWords();
        enumsAreNamesOrNumbers();
        textsHaveTwoQuotes();
        everyByteInAText();
        everyEscape();
        everyThreeDigits();
        escapesAreWhole();
        stringsAreUtf8();
        printNeedsAValue();
        Expect.end();
    }

    private static void prints(String schema, String hex, String text) {
        Desk d = new Desk().schema(schema).hex(hex);
        d.decode(0, 20);
        Expect.same("print of " + hex, text, d.printed());
    }

    private static void right(String schema, String text, String bytes) {
        Desk d = new Desk().schema(schema).text(text);
        String answer = d.parse(0, 20);
        Expect.yes("parse of " + text + " answered " + answer, !answer.equals(WRONG));
        Expect.same("encode of " + text, bytes, d.encoded());
    }

    private static void wrong(String schema, String text) {
        Expect.same("parse of " + text, WRONG, new Desk().schema(schema).text(text).parse(0, 20));
    }

    private static void either(String schema, String text, String bytes, boolean isWrong) {
        if (isWrong) {
            wrong(schema, text);
        } else {
            right(schema, text, bytes);
        }
    }

    private static boolean isBlank(int b) {
        return b == 9 || b == 10 || b == 13 || b == 32;
    }

    private static boolean isDigit(int b) {
        return b >= '0' && b <= '9';
    }

    /** "printed a line each, two blanks in front for each message around" */
    private static void linesAreIndented() {
        String bytes = "10 05";
        StringBuilder text = new StringBuilder();
        for (int deep = 1; deep <= 20; deep++) {
            text.setLength(0);
            for (int k = 1; k < deep; k++) {
                text.append("  ".repeat(k - 1)).append("a {\n");
            }
            text.append("  ".repeat(deep - 1)).append("b: 5\n");
            for (int k = deep - 1; k >= 1; k--) {
                text.append("  ".repeat(k - 1)).append("}\n");
            }
            prints("message A{A a=1;int32 b=2;}", bytes, text.toString());
            bytes = String.format("0a %02x ", (bytes.length() + 1) / 3) + bytes;
        }
    }

    /** "a message: name, blank, {, its lines, and } on a line of its own" */
    private static void messagesArePrintedOnLines() {
        String schema = "message A{A a=1;repeated A b=2;oneof o{A c=3;}}";
        prints(schema, "0a 00", "a {\n}\n");
        prints(schema, "12 00 12 00", "b {\n}\nb {\n}\n");
        prints(schema, "1a 00", "c {\n}\n");
        prints(schema, "0a 02 12 00", "a {\n  b {\n  }\n}\n");
    }

    /** "fields by rising number, rows one by one" */
    private static void fieldsArePrintedByRisingNumber() {
        String schema = "message A{int32 z=1;repeated int32 r=2;int32 a=3;oneof o{int32 m=536870911;}}";
        prints(schema, "f8 ff ff ff 0f 04 18 03 10 09 10 08 08 01 10 07", "z: 1\nr: 9\nr: 8\nr: 7\na: 3\nm: 4\n");
        prints(schema, "12 03 01 00 01", "r: 1\nr: 0\nr: 1\n");
    }

    /** "unknown bytes not at all" */
    private static void unknownBytesAreNotPrinted() {
        prints("message A{A a=1;}", "10 05 0a 02 10 05 12 00", "a {\n}\n");
        prints("message A{int32 a=1;}", "0a 01 05", "");
    }

    private static void nothingIsNotPrinted() {
        String schema = "message A{int32 a=1;string b=2;bool c=3;E d=4;oneof o{int32 e=5;string f=6;bool g=7;E h=8;}}"
                + ENUM;
        prints(schema, "08 00 12 00 18 00 20 00", "");
        prints(schema, "28 00", "e: 0\n");
        prints(schema, "32 00", "f: \"\"\n");
        prints(schema, "38 00", "g: false\n");
        prints(schema, "40 00", "h: Z\n");
    }

    private static void boolsAreTrueOrFalse() {
        prints("message A{repeated bool a=1;}", "0a 04 00 01 02 00", "a: false\na: true\na: true\na: false\n");
    }

    /** "enums by the first name with that number of their enum, else the number" */
    private static void enumsAreTheFirstName() {
        String schema = "enum F{Q=0;P=2;V=-2;}message A{repeated E a=1;}" + ENUM;
        prints(schema, "0a 0f 00 01 02 05 7f ff ff ff ff ff ff ff ff ff 01", "a: Z\na: Y\na: 2\na: W\na: 127\na: X\n");
        prints(schema, "0a 0a fe ff ff ff ff ff ff ff ff 01", "a: -2\n");
        prints(schema, "0a 0a 80 80 80 80 f8 ff ff ff ff 01", "a: -2147483648\n");
        prints(schema, "0a 05 ff ff ff ff 07", "a: 2147483647\n");
    }

    private static String escaped(int b) {
        switch (b) {
            case '\n':
                return "\\n";
            case '\r':
                return "\\r";
            case '\t':
                return "\\t";
            case '"':
                return "\\\"";
            case '\\':
                return "\\\\";
            default:
                return b >= 32 && b <= 126 ? "" + (char) b : String.format("\\%03o", b);
        }
    }

    /** "texts in ", with \n \r \t \" \\ and \ooo (three digits of eight) for other bytes than 32 .. 126" */
    private static void everyByteOfATextIsPrinted() {
        for (int b = 0; b < 256; b++) {
            prints("message A{bytes a=1;}", String.format("0a 01 %02x", b), "a: \"" + escaped(b) + "\"\n");
            prints("message A{bytes a=1;}", String.format("0a 02 %02x 37", b), "a: \"" + escaped(b) + "7\"\n");
            if (b < 128) {
                prints("message A{string a=1;}", String.format("0a 01 %02x", b), "a: \"" + escaped(b) + "\"\n");
            }
        }
        prints("message A{string a=1;}", "0a 04 f0 9f 98 80", "a: \"\\360\\237\\230\\200\"\n");
    }

    private static void printedTextsAreParsed() {
        for (int b = 0; b < 256; b++) {
            right("message A{bytes a=1;}", "a: \"" + escaped(b) + "7\"\n", String.format("0a 02 %02x 37", b));
        }
    }

    /** "PARSED: blanks and comments .. between" */
    private static void blanksStandBetween() {
        String schema = "message A{int32 a=1;A b=2;string c=3;}";
        for (int b = 0; b < 256; b++) {
            String byteText = "" + (char) b;
            String[] texts = {byteText + "a:7", "b{" + byteText + "a:7}", "b" + byteText + "{}", "a" + byteText + ":7",
                "c:" + byteText + "'x'", "c:'x'" + byteText, "b{}" + byteText};
            for (int k = 0; k < texts.length; k++) {
                // A # begins a comment up to the end: what stands in front of it may be all.
                boolean comment = b == '#' && (k == 0 || k >= 5);
                String answer = new Desk().schema(schema).text(texts[k]).parse(0, 20);
                Expect.yes("byte " + b + " in " + texts[k] + " answered " + answer,
                        answer.equals(WRONG) != (isBlank(b) || comment));
            }
        }
        right(schema, " \t\r\na\n:\r7\tb \n{ \r} ", "08 07 12 00");
        right(schema, "", "");
        right(schema, " ", "");
    }

    /** "# to a byte 10 or the text's end" */
    private static void commentsStandBetween() {
        String schema = "message A{int32 a=1;A b=2;}";
        for (int b = 0; b < 256; b++) {
            either(schema, "a:1#" + (char) b + "x\n", "08 01", b == 10);
        }
        right(schema, "#", "");
        right(schema, "#\n#\n", "");
        right(schema, "#\na#\n:#\n1#", "08 01");
        right(schema, "b#{\n{#}\n}", "12 00");
        right(schema, "a:1#a:2\r", "08 01");
        wrong(schema, "a:1//x");
        wrong(schema, "a:1/*x*/");
        wrong(schema, "a:-#\n1");
    }

    private static void fieldsInAnyOrder() {
        String schema = "message A{int32 a=1;int32 b=2;repeated int32 r=3;}";
        right(schema, "b:2 a:1", "08 01 10 02");
        right(schema, "r:5 b:2 r:6 a:1 r:7", "08 01 10 02 1a 03 05 06 07");
    }

    private static void namesAreWhole() {
        String schema = "message A{int32 ab=1;oneof o{int32 abc=2;}enum F{G=0;}message H{}}";
        right(schema, "ab:1", "08 01");
        right(schema, "abc:1", "10 01");
        for (String name : new String[] {"a", "b", "abcd", "AB", "aB", "o", "F", "G", "H", "", "ab.", "1", "_ab", "ab_",
            "A", "[ab]", "\"ab\"", "ab ab"}) {
            wrong(schema, name + ":1");
        }
    }

    /** "or NAME { .. } for a message" */
    private static void messagesHaveBraces() {
        String schema = "message A{A a=1;int32 b=2;}";
        right(schema, "a{}", "0a 00");
        right(schema, "a {b:1}", "0a 02 10 01");
        for (String text : new String[] {"a", "a{", "a}", "{}", "}", "a:{}", "a:1", "a<>", "a{}}", "a{b:1", "a{{}}",
            "a[]", "a{a{}", "a{};", "a{},b:1", "b{}", "b{1}"}) {
            wrong(schema, text);
        }
    }

    /** "NAME : value" */
    private static void otherFieldsHaveAColon() {
        String schema = "message A{int32 a=1;string b=2;bool c=3;E d=4;repeated int32 r=5;}" + ENUM;
        for (String name : new String[] {"a", "b", "c", "d", "r"}) {
            for (String rest : new String[] {"", ":", "::", " ", "=1", " 1", "'x'", " true", "Z", ":}", ":{}", ":[]",
                ":,", ":[1]", "{}"}) {
                wrong(schema, name + rest);
            }
        }
        wrong(schema, "a:1,c:true");
        wrong(schema, "a:1;c:true");
        wrong(schema, "a:1 1");
        wrong(schema, "b:'x''y'");
        wrong(schema, "b:'x' 'y'");
        right(schema, "b:'x'a:1", "08 01 12 01 78");
    }

    /** "what is not repeated once" */
    private static void fieldsStandOnce() {
        String schema = "message A{int32 a=1;string b=2;bool c=3;E d=4;A e=5;}" + ENUM;
        for (String field : new String[] {"a:1", "a:0", "b:''", "b:'x'", "c:true", "c:false", "d:Z", "d:Y", "e{}"}) {
            wrong(schema, field + " " + field);
            wrong(schema, field + (field.startsWith("a") ? " b:'y' " : " a:7 ") + field);
            wrong(schema, "e{" + field + " " + field + "}");
            if (!field.startsWith("e")) {
                Desk d = new Desk().schema(schema).text("e{" + field + "}" + field);
                Expect.yes("one in each message", !d.parse(0, 20).equals(WRONG));
            }
        }
    }

    /** "of a oneof one" */
    private static void oneofsHaveOne() {
        String schema = "message A{oneof o{int32 a=1;string b=2;A c=3;}oneof p{int32 d=4;}int32 e=5;}";
        String[] fields = {"a:0", "b:''", "c{}"};
        for (String first : fields) {
            for (String second : fields) {
                wrong(schema, first + " " + second);
                wrong(schema, first + " e:1 " + second);
                Desk d = new Desk().schema(schema).text("c{" + first + "}d:1 e:1");
                Expect.same("one in each message", "4", d.parse(0, 20));
            }
        }
        right(schema, "a:0 d:0", "08 00 20 00");
    }

    private static void rowsStandOften() {
        right("message A{repeated int32 a=1;}", "a:1 a:1 a:0", "0a 03 01 01 00");
        right("message A{repeated string a=1;}", "a:''a:''", "0a 00 0a 00");
        right("message A{repeated A a=1;}", "a{}a{}", "0a 00 0a 00");
    }

    private static BigInteger lowest(String type) {
        boolean unsigned = type.startsWith("u") || type.startsWith("fixed");
        return unsigned ? BigInteger.ZERO : BigInteger.TWO.pow(type.endsWith("64") ? 63 : 31).negate();
    }

    private static BigInteger highest(String type) {
        boolean unsigned = type.startsWith("u") || type.startsWith("fixed");
        int bits = (type.endsWith("64") ? 63 : 31) + (unsigned ? 1 : 0);
        return BigInteger.TWO.pow(bits).subtract(BigInteger.ONE);
    }

    /** "within the type's range" */
    private static void numbersAreInTheirRange() {
        for (String type : NUMBER_TYPES) {
            String schema = "message A{" + type + " a=1;}enum E{Z=0;}";
            BigInteger[] around = {lowest(type), highest(type), BigInteger.ZERO, BigInteger.TWO.pow(31),
                BigInteger.TWO.pow(32), BigInteger.TWO.pow(63), BigInteger.TWO.pow(64), BigInteger.TWO.pow(65),
                BigInteger.TWO.pow(128), BigInteger.TEN.pow(19), BigInteger.TEN.pow(20),
                BigInteger.TWO.pow(64).multiply(BigInteger.TEN)};
            for (BigInteger middle : around) {
                for (int step = -6; step <= 6; step++) {
                    numberIsRight(schema, type, middle.add(BigInteger.valueOf(step)));
                    numberIsRight(schema, type, middle.negate().add(BigInteger.valueOf(step)));
                }
            }
        }
    }

    private static void numberIsRight(String schema, String type, BigInteger number) {
        boolean inRange = number.compareTo(lowest(type)) >= 0 && number.compareTo(highest(type)) <= 0;
        Desk d = new Desk().schema(schema).text("a: " + number);
        String answer = d.parse(0, 1);
        String due = !inRange ? WRONG : number.signum() == 0 ? "0" : "1";
        Expect.same(type + " " + number, due, answer);
        if (due.equals("1")) {
            Expect.same("printed again", "a: " + number + "\n", d.printed());
        }
    }

    /** "0 in front as you like" */
    private static void zerosInFrontAreRight() {
        for (String type : NUMBER_TYPES) {
            String schema = "message A{" + type + " a=1;}enum E{Z=0;}";
            for (BigInteger number : new BigInteger[] {lowest(type), highest(type), BigInteger.ONE}) {
                if (number.signum() != 0) {
                    String minus = number.signum() < 0 ? "-" : "";
                    Desk d = new Desk().schema(schema).text("a: " + minus + "0".repeat(600) + number.abs());
                    Expect.same(type + " with zeros in front", "1", d.parse(0, 1));
                    Expect.same("printed without", "a: " + number + "\n", d.printed());
                }
            }
            for (String zero : new String[] {"0", "00", "-0", "-000", "0".repeat(650)}) {
                right(schema, "a:" + zero, "");
            }
            wrong(schema, "a:" + "0".repeat(600) + highest(type).add(BigInteger.ONE));
        }
    }

    /** "no letter, digit or _ right behind" */
    private static void nothingStandsBehindANumber() {
        String schema = "message A{int32 a=1;string b=2;E c=3;A d=4;}" + ENUM;
        for (int b = 0; b < 256; b++) {
            String next = "" + (char) b;
            // A digit goes on with the number.
            boolean right = isBlank(b) || isDigit(b) || b == '#';
            String number = "1" + (isDigit(b) ? next : "");
            for (String name : new String[] {"a", "c"}) {
                Desk d = new Desk().schema(schema).text(name + ":1" + next);
                Expect.same("behind a number byte " + b, right ? "1" : WRONG, d.parse(0, 1));
                String line = name + ": " + (name.equals("c") && number.equals("1") ? "Y" : number) + "\n";
                Expect.same("printed again", right ? line : "IllegalStateException", d.printed());
            }
            String inside = new Desk().schema(schema).text("d{a:1" + next + "}").parse(0, 2);
            Expect.yes("in a message with byte " + b + " answered " + inside,
                    inside.equals(WRONG) != (isBlank(b) || isDigit(b)));
        }
        wrong(schema, "a:1b:'x'");
        wrong(schema, "a:0x1");
        wrong(schema, "a:1e1");
        wrong(schema, "a:1.0");
        right(schema, "d{a:1}", "22 02 08 01");
    }

    /** "numbers in decimal, perhaps with -" */
    private static void aMinusStandsInFront() {
        String schema = "message A{int32 a=1;uint32 b=2;uint64 c=3;}";
        right(schema, "a:-5", "08 fb ff ff ff ff ff ff ff ff 01");
        right(schema, "a: -5", "08 fb ff ff ff ff ff ff ff ff 01");
        for (String number : new String[] {"--5", "+5", "-", "- 5", "5-", "-x", "-+5", "-\n5", "(5)", "-a"}) {
            wrong(schema, "a:" + number);
        }
        wrong(schema, "b:-1");
        wrong(schema, "c:-1");
        right(schema, "b:-0 c:-0", "");
    }

    /** "bool: true, false" */
    private static void boolsAreWords() {
        String schema = "message A{bool a=1;bool b=2;}";
        right(schema, "a:true", "08 01");
        right(schema, "a:false", "");
        right(schema, "a:true b:true", "08 01 10 01");
        right(schema, "a:true#", "08 01");
        for (String other : new String[] {"True", "TRUE", "t", "f", "1", "0", "truE", "tru", "truee", "true_", "true1",
            "falsee", "'true'", "-true", "trueb:true", ""}) {
            wrong(schema, "a:" + other);
        }
    }

    /** "enums by name or number" */
    private static void enumsAreNamesOrNumbers() {
        String schema = "message A{E a=1;}enum F{Q=0;P=1;}" + ENUM;
        right(schema, "a:Z", "");
        right(schema, "a:Y", "08 01");
        right(schema, "a:YY", "08 01");
        right(schema, "a:W#", "08 05");
        right(schema, "a:X", "08 ff ff ff ff ff ff ff ff ff 01");
        right(schema, "a:3", "08 03");
        right(schema, "a:0", "");
        right(schema, "a:-2147483648", "08 80 80 80 80 f8 ff ff ff ff 01");
        right(schema, "a:2147483647", "08 ff ff ff ff 07");
        for (String other : new String[] {"y", "YYY", "P", "Q", "E", "E.Y", "'Y'", "-Y", "Y_", "Y1", "true",
            "2147483648", "-2147483649", "4294967295", "1Y", "_"}) {
            wrong(schema, "a:" + other);
        }
    }

    /** "texts in " or '" */
    private static void textsHaveTwoQuotes() {
        for (String type : new String[] {"string", "bytes"}) {
            String schema = "message A{" + type + " a=1;}";
            right(schema, "a:\"x'y\"", "0a 03 78 27 79");
            right(schema, "a:'x\"y'", "0a 03 78 22 79");
            right(schema, "a:\"\"", "");
            right(schema, "a:''", "");
            for (String text : new String[] {"\"x", "x\"", "\"x'", "'x\"", "\"", "'", "x", "`x`", "\"x\"\"", "\"x\"y",
                "5", "true", "\"\"\"", "''x''"}) {
                wrong(schema, "a:" + text);
            }
        }
    }

    /** "bytes 32 .. 126 in them but the quote and the backslash" */
    private static void everyByteInAText() {
        for (int b = 0; b < 256; b++) {
            for (char quote : new char[] {'"', '\''}) {
                String schema = "message A{bytes a=1;}";
                boolean right = b >= 32 && b <= 126 && b != quote && b != '\\';
                String text = "a:" + quote + "x" + (char) b + "z" + quote;
                either(schema, text, String.format("0a 03 78 %02x 7a", b), !right);
                either(schema.replace("bytes", "string"), text, String.format("0a 03 78 %02x 7a", b), !right);
            }
        }
    }

    /** "with the escapes above and \'" */
    private static void everyEscape() {
        for (int b = 0; b < 256; b++) {
            int known = "nrt\"\\'".indexOf(b);
            for (char quote : new char[] {'"', '\''}) {
                String text = "a:" + quote + "\\" + (char) b + "z" + quote;
                int meant = known < 0 ? 0 : "\n\r\t\"\\'".charAt(known);
                either("message A{bytes a=1;}", text, String.format("0a 02 %02x 7a", meant), known < 0);
            }
        }
    }

    /** "\ooo (three digits of eight)" */
    private static void everyThreeDigits() {
        for (int value = 0; value < 512; value++) {
            String text = String.format("a:\"\\%03o\"", value);
            either("message A{bytes a=1;}", text, String.format("0a 01 %02x", value & 255), value > 255);
        }
        for (int b = 0; b < 256; b++) {
            boolean digit = b >= '0' && b <= '7';
            char other = (char) b;
            for (String text : new String[] {"\\" + other + "01", "\\0" + other + "1", "\\00" + other,
                "\\1" + other + "1", "\\11" + other}) {
                String answer = new Desk().schema("message A{bytes a=1;}").text("a:'" + text + "'").parse(0, 1);
                boolean right = digit && !text.matches("(?s)\\\\[4-7].*") || "nrt\"\\'".indexOf(b) >= 0
                        && text.charAt(1) == other;
                Expect.yes(text + " with byte " + b + " answered " + answer, answer.equals(WRONG) != right);
            }
        }
    }

    private static void escapesAreWhole() {
        String schema = "message A{bytes a=1;}";
        for (String text : new String[] {"\"\\", "\"\\\"", "\"\\0", "\"\\00", "\"\\0\"", "\"\\00\"", "\"\\x41\"",
            "\"\\u0041\"", "\"\\a\"", "\"\\?\"", "\"\\N\"", "\"\\\n\"", "'\\'", "\"\\08\"", "\"\\018\"", "\"\\1 1\""}) {
            wrong(schema, "a:" + text);
        }
        right(schema, "a:\"\\0011\"", "0a 02 01 31");
        right(schema, "a:\"\\\\101\"", "0a 04 5c 31 30 31");
        right(schema, "a:\"\\\\\\101\"", "0a 02 5c 41");
    }

    /** "for strings UTF-8" */
    private static void stringsAreUtf8() {
        String[] right = {"\\177", "\\302\\200", "\\337\\277", "\\340\\240\\200", "\\355\\237\\277", "\\356\\200\\200",
            "\\357\\277\\277", "\\360\\220\\200\\200", "\\364\\217\\277\\277", "\\000"};
        String[] bad = {"\\200", "\\301\\277", "\\337", "\\340\\237\\277", "\\355\\240\\200", "\\355\\277\\277",
            "\\357\\277", "\\360\\217\\277\\277", "\\364\\220\\200\\200", "\\365\\200\\200\\200", "\\377", "\\302a"};
        for (String text : right) {
            Expect.same(text, "1", new Desk().schema("message A{string a=1;}").text("a:'" + text + "'").parse(0, 1));
        }
        for (String text : bad) {
            wrong("message A{string a=1;}", "a:'" + text + "'");
            wrong("message A{repeated string a=1;}", "a:'x' a:\"" + text + "\" a:'y'");
            wrong("message A{oneof o{string a=1;}}", "a:'" + text + "'");
            Expect.same(text, "1", new Desk().schema("message A{bytes a=1;}").text("a:'" + text + "'").parse(0, 1));
        }
        wrong("message A{repeated string a=1;}", "a:'\\303' a:'\\244'");
    }

    /** "IllegalStateException: there is none" */
    private static void printNeedsAValue() {
        Desk d = new Desk();
        Expect.state("print at first", d.desk::print);
        d.schema("message A{}");
        Expect.state("print of a schema", d.desk::print);
        Expect.same("parse of nothing", "0", d.parse(0, 1));
        Expect.same("an empty value is printed", 0, d.desk.print());
        Expect.same("a wrong text", WRONG, d.text("x").parse(0, 1));
        Expect.state("print then", d.desk::print);
    }
}
