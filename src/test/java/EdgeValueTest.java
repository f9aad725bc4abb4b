import java.nio.ByteBuffer;
import java.nio.charset.CharacterCodingException;
import java.nio.charset.CodingErrorAction;
import java.nio.charset.StandardCharsets;

/**
 * The document's sentences about values, their bytes, depth and limits that name an edge, a method each (the terms'
 * parts A VALUE OF A MESSAGE, DECODING, DEPTH, ENCODING and LIMITS; promises 8 and 10, and 9 where it is likewise).
 */
public final class EdgeValueTest {
    private static final String[] TYPES = {"int32", "int64", "uint32", "uint64", "sint32", "sint64", "fixed32",
        "fixed64", "sfixed32", "sfixed64", "bool", "string", "bytes", "A", "E"};
    private static final int[] KINDS = {0, 0, 0, 0, 0, 0, 5, 1, 5, 1, 0, 2, 2, 2, 0};
    private static final String ENUM = "enum E{Z=0;Y=1;}";
    private static final String WRONG = "IllegalArgumentException";
    private static final String BEYOND = "IllegalStateException";

    public static void main(String[] args) {
        zerosCountAsNothing();
        zerosInOneofsCount();
        zerosInRowsCount();
        aOneofHasAtMostOne();
        enumsAreAnyInt();
        twoBytesOfUtf8();
        moreBytesOfUtf8();
        utf8OfEveryText();
        varintsHaveUpTo10Bytes();
        aboveSixtyFourBitsNothingIsLeft();
        tagsAreBelow2To32();
        numbersOfTagsAreFrom1On();
        otherKindsAreWrong();
        whatIsNotAllThereIsWrong();
        lengthsAreOfBytesThatAreThere();
        fieldsOfTheirKindAreTaken();
        rowsOfNumbersMayBePacked();
        packedRowsComeOutEven();
        unknownBytesStayAsTheyAre();
        theLowest32BitsCount();
        zigzag();
        boolsAreWhatIsNot0();
        theLastValueCounts();
        messagesAreMerged();
        aOneofsOtherFieldsGo();
        depthHasALimit();
        depthOfRowsAndOneofs();
        fieldsByRisingNumber();
        rowsArePackedOrNot();
        varintsAreShort();
        negativeNumbersAre64Bits();
        limitOf200Values();
        limitOf200ValuesOfATree();
        whatIsNoValueIsNotCounted();
        limitOfBytes();
        wrongGoesBeforeBeyond();
        thereIsNoValueThen();
        wrongArguments();
        Expect.end();
    }

    /** Decodes bytes as message 0 of a schema, then encodes them: how many values, and the bytes. */
    private static void both(String schema, String hex, int many, String again) {
        Desk d = new Desk().schema(schema).hex(hex);
        Expect.same("decode of " + hex + " in " + schema, Integer.toString(many), d.decode(0, 20));
        Expect.same("encode of " + hex + " in " + schema, again, d.encoded());
    }

    private static void wrong(String schema, String hex) {
        Expect.same("decode of " + hex + " in " + schema, WRONG, new Desk().schema(schema).hex(hex).decode(0, 20));
    }

    private static String byteOf(int b) {
        return String.format("%02x", b);
    }

    /** Field 1 of a kind with a value of that kind that is all zeros. */
    private static String zeros(int kind) {
        return kind == 0 ? "08 00" : kind == 1 ? "09" + " 00".repeat(8) : kind == 2 ? "0a 00" : "0d" + " 00".repeat(4);
    }

    private static String ones(int kind) {
        return kind == 0 ? "08 01" : kind == 1 ? "09 01" + " 00".repeat(7) : kind == 2 ? "0a 02 08 01"
                : "0d 01" + " 00".repeat(3);
    }

    /** "numbers, bools, texts of 0, false, or nothing, outside of oneofs, count as nothing" */
    private static void zerosCountAsNothing() {
        for (int type = 0; type < TYPES.length; type++) {
            String schema = "message A{" + TYPES[type] + " a=1;}" + ENUM;
            boolean message = type == 13;
            both(schema, zeros(KINDS[type]), message ? 1 : 0, message ? "0a 00" : "");
            both(schema, ones(KINDS[type]), 1, ones(KINDS[type]));
            // A message has no zero, and its 08 01 is unknown.
            both(schema, ones(KINDS[type]) + " " + zeros(KINDS[type]), message ? 1 : 0, message ? "0a 02 08 01" : "");
        }
    }

    private static void zerosInOneofsCount() {
        for (int type = 0; type < TYPES.length; type++) {
            String schema = "message A{oneof o{" + TYPES[type] + " a=1;}}" + ENUM;
            both(schema, zeros(KINDS[type]), 1, zeros(KINDS[type]));
        }
    }

    private static void zerosInRowsCount() {
        for (int type = 0; type < TYPES.length; type++) {
            String zeros = zeros(KINDS[type]);
            boolean numbers = type <= 10 || type == 14;
            String unpacked = "message A{repeated " + TYPES[type] + " a=1" + (numbers ? "[packed=false]" : "") + ";}";
            both(unpacked + ENUM, zeros + " " + zeros, 2, zeros + " " + zeros);
            if (numbers) {
                int size = 2 * (KINDS[type] == 0 ? 1 : KINDS[type] == 1 ? 8 : 4);
                both("message A{repeated " + TYPES[type] + " a=1;}" + ENUM, zeros + " " + zeros, 2,
                        "0a " + byteOf(size) + " 00".repeat(size));
            }
        }
    }

    /** "of a oneof at most one" */
    private static void aOneofHasAtMostOne() {
        String schema = "message A{oneof o{int32 a=1;string b=2;A c=3;}oneof p{int32 d=4;}}";
        both(schema, "08 01 12 00 1a 00", 1, "1a 00");
        both(schema, "1a 00 12 00 08 00", 1, "08 00");
        both(schema, "1a 00 20 00 12 00", 2, "12 00 20 00");
    }

    /** "Enums are any int." */
    private static void enumsAreAnyInt() {
        String schema = "message A{E a=1;}" + ENUM;
        String[] ints = {"02", "7f", "ff ff ff ff 07", "80 80 80 80 f8 ff ff ff ff 01",
                "ff ff ff ff ff ff ff ff ff 01"};
        for (String bits : ints) {
            both(schema, "08 " + bits, 1, "08 " + bits);
        }
    }

    private static boolean isUtf8(byte[] bytes) {
        try {
            StandardCharsets.UTF_8.newDecoder().onMalformedInput(CodingErrorAction.REPORT)
                    .onUnmappableCharacter(CodingErrorAction.REPORT).decode(ByteBuffer.wrap(bytes));
            return true;
        } catch (CharacterCodingException e) {
            return false;
        }
    }

    /** Decodes a text of a string; what is due tells the Java library. */
    private static Desk decodeText(Desk desk, int calls, int... text) {
        Desk d = calls % 100 == 0 ? new Desk().schema("message A{string s=1;}") : desk;
        byte[] bytes = new byte[text.length];
        StringBuilder fed = new StringBuilder("\012" + (char) text.length);
        StringBuilder shown = new StringBuilder("text");
        for (int k = 0; k < text.length; k++) {
            bytes[k] = (byte) text[k];
            fed.append((char) text[k]);
            shown.append(' ').append(byteOf(text[k]));
        }
        d.text(fed.toString());
        Expect.same(shown.toString(), isUtf8(bytes) ? "1" : WRONG, d.decode(0, 1));
        return d;
    }

    /** "Texts of strings are UTF-8 (in the fewest bytes, no surrogates, up to 10FFFF)." */
    private static void twoBytesOfUtf8() {
        Desk d = null;
        int calls = 0;
        for (int first = 0; first < 256; first++) {
            d = decodeText(d, calls++, first);
            for (int second = 0; second < 256; second++) {
                d = decodeText(d, calls++, first, second);
            }
        }
    }

    private static void moreBytesOfUtf8() {
        int[] edges = {0x00, 0x7F, 0x80, 0x8F, 0x90, 0x9F, 0xA0, 0xBF, 0xC0, 0xFF};
        Desk d = null;
        int calls = 0;
        for (int first = 0xDF; first < 256; first++) {
            for (int second : edges) {
                for (int third : edges) {
                    d = decodeText(d, calls++, first, second, third);
                    for (int fourth : edges) {
                        d = decodeText(d, calls++, first, second, third, fourth);
                    }
                }
            }
        }
    }

    /** One that a later text replaces, in a row, in a oneof, in a message, too; bytes may be any. */
    private static void utf8OfEveryText() {
        wrong("message A{string a=1;}", "0a 01 80 0a 01 41");
        wrong("message A{repeated string a=1;}", "0a 01 41 0a 01 80 0a 01 41");
        wrong("message A{oneof o{string a=1;int32 b=2;}}", "0a 01 80 10 01");
        wrong("message A{A a=1;string b=2;}", "0a 03 12 01 80");
        wrong("message A{string a=1;}", "0a 01 c3 0a 01 a4");
        both("message A{bytes a=1;}", "0a 01 80", 1, "0a 01 80");
        both("message A{}", "0a 01 80", 0, "0a 01 80");
    }

    /** A varint of 1 in so many bytes. */
    private static String long1(int bytes) {
        return bytes == 1 ? "01" : "81" + " 80".repeat(bytes - 2) + " 00";
    }

    /** "0 a varint (up to 10 bytes; ..)" */
    private static void varintsHaveUpTo10Bytes() {
        for (int bytes = 1; bytes <= 12; bytes++) {
            String one = long1(bytes);
            String[] schemas = {"message A{int32 a=1;}", "message A{repeated int32 a=1[packed=false];}", "message A{}"};
            for (String schema : schemas) {
                if (bytes > 10) {
                    wrong(schema, "08 " + one);
                } else {
                    boolean known = schema.contains("int32");
                    both(schema, "08 " + one, known ? 1 : 0, known ? "08 01" : "08 " + one);
                }
            }
            String tag = one.replaceFirst("01|81", bytes == 1 ? "08" : "88");
            String packed = "0a " + byteOf(bytes) + " " + one;
            String length = "0a " + one + " 41";
            if (bytes > 10) {
                wrong("message A{int32 a=1;}", tag + " 05");
                wrong("message A{repeated int32 a=1;}", packed);
                wrong("message A{string a=1;}", length);
                wrong("message A{}", length);
            } else {
                both("message A{int32 a=1;}", tag + " 05", 1, "08 05");
                both("message A{repeated int32 a=1;}", packed, 1, "0a 01 01");
                both("message A{string a=1;}", length, 1, "0a 01 41");
                both("message A{}", length, 0, length);
            }
        }
    }

    /** "of what is above 64 bits nothing is left" */
    private static void aboveSixtyFourBitsNothingIsLeft() {
        for (int last = 0; last < 128; last++) {
            String nine = " 80".repeat(9) + " " + byteOf(last);
            boolean odd = last % 2 == 1;
            both("message A{uint64 a=1;}", "08" + nine, odd ? 1 : 0, odd ? "08" + " 80".repeat(9) + " 01" : "");
            both("message A{bool a=1;}", "08" + nine, odd ? 1 : 0, odd ? "08 01" : "");
            both("message A{int32 a=1;}", "08" + nine, 0, "");
            both("message A{}", "08" + nine, 0, "08" + nine);
            // A tag and a length whose lower bits are right ones.
            String eight = " 80".repeat(8) + " " + byteOf(last);
            if (odd) {
                wrong("message A{int32 a=1;}", "88" + eight + " 05");
                wrong("message A{string a=1;}", "0a 81" + eight + " 41");
            } else {
                both("message A{int32 a=1;}", "88" + eight + " 05", 1, "08 05");
                both("message A{string a=1;}", "0a 81" + eight + " 41", 1, "0a 01 41");
            }
        }
    }

    /** "a TAG, a varint below 2^32" */
    private static void tagsAreBelow2To32() {
        both("message A{int32 a=536870911;}", "f8 ff ff ff 0f 05", 1, "f8 ff ff ff 0f 05");
        both("message A{}", "f8 ff ff ff 0f 05", 0, "f8 ff ff ff 0f 05");
        wrong("message A{int32 a=536870911;}", "f8 ff ff ff 1f 05");
        wrong("message A{int32 a=1;}", "88 80 80 80 10 05");
        wrong("message A{int32 a=1;}", "88 80 80 80 80 01 05");
        wrong("message A{int32 a=1;}", "88 80 80 80 80 80 80 80 80 01 05");
        wrong("message A{}", "80 80 80 80 10 05");
    }

    /** "the number (from 1 on) times 8 and a KIND" */
    private static void numbersOfTagsAreFrom1On() {
        String[] values = {"00", "00 00 00 00 00 00 00 00", "00", null, null, "00 00 00 00"};
        for (int kind = 0; kind < 6; kind++) {
            if (values[kind] != null) {
                wrong("message A{int32 a=1;}", byteOf(kind) + " " + values[kind]);
                wrong("message A{}", byteOf(128 + kind) + " 00 " + values[kind]);
                both("message A{}", byteOf(8 + kind) + " " + values[kind], 0, byteOf(8 + kind) + " " + values[kind]);
            }
        }
    }

    /** "others .. are WRONG" */
    private static void otherKindsAreWrong() {
        for (int kind : new int[] {3, 4, 6, 7}) {
            for (String rest : new String[] {"", " 00", " 0c", " 00 00 00 00", " 00 00 00 00 00 00 00 00"}) {
                wrong("message A{int32 a=1;}", byteOf(8 + kind) + rest);
                wrong("message A{}", byteOf(8 + kind) + rest);
                wrong("message A{A a=1;}", byteOf(8 + kind) + rest);
            }
        }
        wrong("message A{A a=1;}", "0b 0c");
    }

    /** "what is not all there" */
    private static void whatIsNotAllThereIsWrong() {
        String schema = "message A{int32 a=1;fixed64 b=2;string c=3;fixed32 d=4;A e=5;repeated int32 f=6;}";
        String[] fields = {"08 96 01", "11 01 02 03 04 05 06 07 08", "1a 03 41 42 43", "25 01 02 03 04", "2a 02 08 07",
            "32 03 01 96 01", "80 01 96 01", "81 01 01 02 03 04 05 06 07 08", "82 01 02 fe ff", "85 01 01 02 03 04"};
        for (String field : fields) {
            for (String[] put : new String[][] {{"08 05 ", ""}, {"", ""}, {"08 05 2a ", "in"}}) {
                int size = (field.length() + 1) / 3;
                for (int cut = 0; cut <= size; cut++) {
                    String part = field.substring(0, Math.max(0, 3 * cut - 1));
                    String hex = put[0] + (put[1].isEmpty() ? "" : byteOf(cut) + " ") + part;
                    boolean right = cut == 0 || cut == size;
                    String answer = new Desk().schema(schema).hex(hex).decode(0, 20);
                    Expect.yes("decode of " + hex + " answered " + answer, answer.equals(WRONG) == !right);
                }
            }
        }
    }

    /** "2 a length (varint) and so many bytes" */
    private static void lengthsAreOfBytesThatAreThere() {
        String[] lengths = {"02", "03", "7f", "ff 01", "80 80 80 80 08", "ff ff ff ff 07", "ff ff ff ff 0f",
            "81 80 80 80 10", "ff ff ff ff ff ff ff ff 7f", "ff ff ff ff ff ff ff ff ff 01",
            "81 80 80 80 80 80 80 80 80 01"};
        for (String length : lengths) {
            wrong("message A{string a=1;}", "0a " + length + " 41");
            wrong("message A{}", "0a " + length + " 41");
            wrong("message A{A a=1;}", "0a " + length + " 08");
            wrong("message A{repeated int32 a=1;}", "0a " + length + " 01");
            wrong("message A{A a=1;string b=2;}", "0a 03 12 " + length + " 41 12 01 41 12 01 41");
        }
    }

    /** "A field that the message has, of its kind .., is taken", "All others go to the unknown bytes" */
    private static void fieldsOfTheirKindAreTaken() {
        for (int type = 0; type < TYPES.length; type++) {
            for (int kind : new int[] {0, 1, 2, 5}) {
                String hex = kind == 2 ? "0a 02 41 42" : ones(kind);
                if (type == 13 && kind == 2) {
                    hex = "0a 02 10 05";
                }
                int due = KINDS[type] == kind ? 1 : 0;
                both("message A{" + TYPES[type] + " a=1;}" + ENUM, hex, due, hex);
                both("message A{oneof o{" + TYPES[type] + " a=1;}}" + ENUM, hex, due, hex);
                boolean numbers = type <= 10 || type == 14;
                if (!(numbers && kind == 2)) {
                    both("message A{repeated " + TYPES[type] + " a=1" + (numbers ? "[packed=false]" : "") + ";}" + ENUM,
                            hex, due, hex);
                }
            }
        }
    }

    /** "a repeated one of numbers also in a length's bytes, one behind the other" */
    private static void rowsOfNumbersMayBePacked() {
        for (int type = 0; type < TYPES.length; type++) {
            if (KINDS[type] == 2) {
                continue;
            }
            int size = KINDS[type] == 0 ? 1 : KINDS[type] == 1 ? 8 : 4;
            String one = "01" + " 00".repeat(size - 1);
            String packed = "0a " + byteOf(3 * size) + (" " + one).repeat(3);
            String single = byteOf(8 + KINDS[type]) + " " + one;
            for (String form : new String[] {"", "[packed=true]", "[packed=false]"}) {
                String schema = "message A{repeated " + TYPES[type] + " a=1" + form + ";}" + ENUM;
                String due = form.contains("false") ? single + " " + single + " " + single : packed;
                both(schema, packed, 3, due);
                both(schema, single + " " + single + " " + single, 3, due);
                both(schema, single + " 0a " + byteOf(size) + " " + one + " 0a 00 " + single, 3, due);
                both(schema, "0a 00", 0, "");
            }
        }
    }

    /** "packed: wrong if they do not come out even" */
    private static void packedRowsComeOutEven() {
        for (int type = 0; type < TYPES.length; type++) {
            if (KINDS[type] == 2) {
                continue;
            }
            int size = KINDS[type] == 1 ? 8 : KINDS[type] == 5 ? 4 : 2;
            for (int length = 0; length <= 3 * size; length++) {
                // Varints of two bytes each.
                StringBuilder hex = new StringBuilder("0a " + byteOf(length));
                for (int k = 0; k < length; k++) {
                    hex.append(k % 2 == 0 ? " 81" : " 01");
                }
                // What follows on the tape is not of the row.
                String more = hex + " 09 01 02 03 04 05 06 07 08";
                String schema = "message A{repeated " + TYPES[type] + " a=1;}" + ENUM;
                String answer = new Desk().schema(schema).hex(hex.toString()).decode(0, 1);
                Expect.yes(hex + " answered " + answer, answer.equals(WRONG) == (length % size != 0));
                String again = new Desk().schema(schema).hex(more).decode(0, 1);
                Expect.yes(more + " answered " + again, again.equals(WRONG) == (length % size != 0));
            }
        }
    }

    /** "as they are", "unknown bytes at the end" */
    private static void unknownBytesStayAsTheyAre() {
        String schema = "message A{int32 a=5;A b=6;}";
        both(schema, "88 80 00 81 80 00 28 01 12 81 00 41", 1, "28 01 88 80 00 81 80 00 12 81 00 41");
        both(schema, "32 04 08 01 28 02 08 03", 2, "32 04 28 02 08 01 08 03");
        both(schema, "08 01 28 00 10 02 08 01", 0, "08 01 10 02 08 01");
        both(schema, "2a 02 08 01", 0, "2a 02 08 01");
        both(schema, "32 02 08 01 08 09 32 02 10 02", 1, "32 04 08 01 10 02 08 09");
    }

    /** "Of varints the lowest 32 bits count for int32, uint32, sint32, enums" */
    private static void theLowest32BitsCount() {
        String above = "80 80 80 80 f0 ff ff ff ff 01";
        for (int type = 0; type < TYPES.length; type++) {
            boolean low = type == 0 || type == 2 || type == 4 || type == 14;
            if (KINDS[type] == 0 && type != 10) {
                both("message A{" + TYPES[type] + " a=1;}" + ENUM, "08 " + above, low ? 0 : 1, low ? "" : "08 "
                        + above);
            }
        }
        String all = "ff ff ff ff 0f";
        String minus1 = "ff ff ff ff ff ff ff ff ff 01";
        both("message A{int32 a=1;}", "08 " + all, 1, "08 " + minus1);
        both("message A{E a=1;}" + ENUM, "08 " + all, 1, "08 " + minus1);
        both("message A{uint32 a=1;}", "08 " + minus1, 1, "08 " + all);
        both("message A{sint32 a=1;}", "08 " + minus1, 1, "08 " + all);
        both("message A{int64 a=1;}", "08 " + all, 1, "08 " + all);
        both("message A{repeated int32 a=1;}", "0a 05 " + all, 1, "0a 0a " + minus1);
    }

    /** "sint is zigzag" */
    private static void zigzag() {
        String[][] pairs = {{"01", "-1"}, {"02", "1"}, {"03", "-2"}, {"fe ff ff ff 0f", "2147483647"},
            {"ff ff ff ff 0f", "-2147483648"}, {"fe ff ff ff ff ff ff ff ff 01", "9223372036854775807"},
            {"ff ff ff ff ff ff ff ff ff 01", "-9223372036854775808"}};
        for (int k = 0; k < pairs.length; k++) {
            for (String type : new String[] {"sint32", "sint64"}) {
                if (k < 5 || type.equals("sint64")) {
                    Desk d = new Desk().schema("message A{" + type + " a=1;}").hex("08 " + pairs[k][0]);
                    d.decode(0, 1);
                    Expect.same(type + " of " + pairs[k][0], "a: " + pairs[k][1] + "\n", d.printed());
                    Expect.same("and back", "08 " + pairs[k][0], d.encoded());
                }
            }
        }
    }

    /** "bool is whether it is not 0" */
    private static void boolsAreWhatIsNot0() {
        for (String bits : new String[] {"01", "02", "7f", "80 01", "80 80 80 80 10",
                "80 80 80 80 80 80 80 80 80 01"}) {
            both("message A{bool a=1;}", "08 " + bits, 1, "08 01");
        }
        for (String bits : new String[] {"00", "80 00", "80 80 80 80 80 80 80 80 80 00"}) {
            both("message A{bool a=1;}", "08 " + bits, 0, "");
            both("message A{oneof o{bool a=1;}}", "08 " + bits, 1, "08 00");
        }
        both("message A{repeated bool a=1;}", "0a 06 02 00 80 01 80 00", 4, "0a 04 01 00 01 00");
    }

    /** "The last value of a field that is not repeated counts" */
    private static void theLastValueCounts() {
        for (int type = 0; type < TYPES.length; type++) {
            if (type != 13) {
                String schema = "message A{" + TYPES[type] + " a=1;}" + ENUM;
                String last = KINDS[type] == 2 ? "0a 01 43" : ones(KINDS[type]);
                String first = KINDS[type] == 2 ? "0a 02 41 42"
                        : byteOf(8 + KINDS[type]) + " 07" + last.substring(5);
                both(schema, first + " " + last, 1, last);
                both(schema, last + " " + zeros(KINDS[type]), 0, "");
                both(schema, zeros(KINDS[type]) + " " + last, 1, last);
            }
        }
    }

    /** "messages are merged (fields anew, rows and unknown bytes at the end)" */
    private static void messagesAreMerged() {
        String schema = "message A{A m=1;int32 a=2;string b=3;repeated int32 r=4;repeated A n=5;"
                + "oneof o{int32 c=6;A d=7;}}";
        both(schema, "0a 02 10 01 0a 02 10 02", 2, "0a 02 10 02");
        both(schema, "0a 02 10 01 0a 00", 2, "0a 02 10 01");
        both(schema, "0a 02 10 01 0a 03 1a 01 41", 3, "0a 05 10 01 1a 01 41");
        both(schema, "0a 03 22 01 01 0a 03 22 01 02", 3, "0a 04 22 02 01 02");
        both(schema, "0a 02 2a 00 0a 04 2a 02 10 01", 4, "0a 06 2a 00 2a 02 10 01");
        both(schema, "0a 02 40 01 0a 02 40 02", 1, "0a 04 40 01 40 02");
        both(schema, "0a 04 0a 02 10 01 0a 05 0a 03 1a 01 41", 4, "0a 07 0a 05 10 01 1a 01 41");
        both(schema, "0a 02 30 01 0a 02 3a 00", 2, "0a 02 3a 00");
        both(schema, "0a 04 3a 02 10 01 0a 05 3a 03 1a 01 41", 4, "0a 07 3a 05 10 01 1a 01 41");
        both(schema, "0a 04 3a 02 10 01 0a 02 30 05 0a 05 3a 03 1a 01 41", 3, "0a 05 3a 03 1a 01 41");
        // Those of a row are not merged.
        both(schema, "2a 02 10 01 2a 02 10 02", 4, "2a 02 10 01 2a 02 10 02");
    }

    /** "a oneof's other fields go" */
    private static void aOneofsOtherFieldsGo() {
        String schema = "message A{int32 z=1;oneof o{int32 a=2;string b=3;A c=4;}oneof p{int32 d=5;int32 e=6;}}";
        String[] fields = {"10 07", "1a 01 41", "22 02 08 01"};
        int[] values = {1, 1, 2};
        for (int first = 0; first < 3; first++) {
            for (int second = 0; second < 3; second++) {
                if (first != second) {
                    both(schema, "08 09 28 01 " + fields[first] + " " + fields[second], 2 + values[second],
                            "08 09 " + fields[second] + " 28 01");
                    both(schema, fields[first] + " " + fields[second] + " " + fields[first], values[first],
                            fields[first]);
                }
            }
            // One of another kind is unknown, and none of the oneof's.
            both(schema, fields[first] + " 15 01 02 03 04", values[first], fields[first] + " 15 01 02 03 04");
        }
    }

    /** "the message asked for has 1, one in it 2, ..; above the limit told it is wrong", "depth is not 1 .. 20" */
    private static void depthHasALimit() {
        String bytes = "";
        String text = "";
        for (int deep = 1; deep <= 22; deep++) {
            for (int limit = -1; limit <= 22; limit++) {
                boolean right = limit >= 1 && limit <= 20 && deep <= limit;
                String due = right ? Integer.toString(deep - 1) : WRONG;
                Desk d = new Desk().schema("message A{A a=1;}");
                Expect.same("decode " + deep + " deep, limit " + limit, due, d.text(bytes).decode(0, limit));
                Expect.same("parse " + deep + " deep, limit " + limit, due, d.text(text).parse(0, limit));
                Expect.same("encode", right ? Desk.hexOf(bytes) : BEYOND, d.encoded());
            }
            bytes = "\012" + (char) bytes.length() + bytes;
            text = "a{" + text + "}";
        }
    }

    private static void depthOfRowsAndOneofs() {
        String schema = "message A{repeated A a=1;oneof o{A b=2;}}";
        for (int limit = 1; limit <= 4; limit++) {
            Desk d = new Desk().schema(schema);
            Expect.same("in a row", limit < 3 ? WRONG : "3", d.hex("0a 00 0a 02 0a 00").decode(0, limit));
            Expect.same("in a oneof", limit < 3 ? WRONG : "2", d.hex("12 02 12 00").decode(0, limit));
            Expect.same("one that goes", limit < 3 ? WRONG : "2", d.hex("12 02 12 00 12 00").decode(0, limit));
            Expect.same("unknown bytes have none", "0", d.hex("1a 04 0a 02 0a 00").decode(0, limit));
            Expect.same("a text's row", limit < 3 ? WRONG : "3", d.text("a{}a{a{}}").parse(0, limit));
            Expect.same("a text's oneof", limit < 3 ? WRONG : "2", d.text("b{b{}}").parse(0, limit));
        }
    }

    /** "the fields by rising number .., then the unknown bytes" */
    private static void fieldsByRisingNumber() {
        String schema = "message A{int32 a=3;oneof o{int32 b=1;int32 c=536870911;}repeated int32 d=2;int32 e=16;}";
        both(schema, "f8 ff ff ff 0f 05 80 01 04 20 09 18 03 10 02 80 01 04", 4,
                "12 01 02 18 03 80 01 04 f8 ff ff ff 0f 05 20 09");
        both(schema, "20 09 18 03 10 02 08 01 10 07", 4, "08 01 12 02 02 07 18 03 20 09");
    }

    /** "rows packed if they are of numbers and not [packed = false]; empty rows not at all" */
    private static void rowsArePackedOrNot() {
        both("message A{repeated int32 a=1;}", "08 01", 1, "0a 01 01");
        both("message A{repeated int32 a=1[packed=true];}", "08 01", 1, "0a 01 01");
        both("message A{repeated int32 a=1[packed=false];}", "0a 01 01", 1, "08 01");
        both("message A{repeated int32 a=1[packed=false];}", "0a 00", 0, "");
        both("message A{repeated int32 a=1;}", "0a 00 0a 00", 0, "");
        both("message A{repeated string a=1;}", "0a 00 0a 00", 2, "0a 00 0a 00");
        String long127 = "0a 7f" + " 01".repeat(127);
        String long128 = "0a 80 01" + " 01".repeat(128);
        both("message A{repeated int32 a=1;}", long127, 127, long127);
        both("message A{repeated int32 a=1;}", long128, 128, long128);
    }

    /** "all varints as short as can be" */
    private static void varintsAreShort() {
        for (int bits = 0; bits < 64; bits++) {
            StringBuilder shortest = new StringBuilder();
            long rest = 1L << bits;
            for (; (rest >>> 7) != 0; rest >>>= 7) {
                shortest.append(" ").append(byteOf((int) (rest & 127 | 128)));
            }
            shortest.append(" ").append(byteOf((int) rest));
            int bytes = shortest.length() / 3;
            both("message A{uint64 a=1;}", "08" + shortest, 1, "08" + shortest);
            if (bytes < 9) {
                String longer = shortest.substring(0, shortest.length() - 2) + byteOf((int) rest | 128) + " 80 00";
                both("message A{uint64 a=1;}", "08" + longer, 1, "08" + shortest);
            }
        }
        both("message A{string a=1;}", "8a 00 81 00 41", 1, "0a 01 41");
        both("message A{A a=1;int32 b=2;}", "0a 82 00 10 01", 2, "0a 02 10 01");
        both("message A{A a=1;int32 b=2;}", "0a 83 00 10 81 00", 2, "0a 02 10 01");
    }

    /** "negative int32, int64 and enums as 64 bits" */
    private static void negativeNumbersAre64Bits() {
        String[] types = {"int32", "int64", "E"};
        for (String type : types) {
            Desk d = new Desk().schema("message A{" + type + " a=1;repeated " + type + " b=2;}" + ENUM);
            d.text("a: -1 b: -2").parse(0, 1);
            Expect.same("-1 and -2 of " + type, "08 ff ff ff ff ff ff ff ff ff 01 12 0a fe ff ff ff ff ff ff ff ff 01",
                    d.encoded());
            d.text("a: -2147483648").parse(0, 1);
            Expect.same("the lowest int of " + type, "08 80 80 80 80 f8 ff ff ff ff 01", d.encoded());
        }
        both("message A{sfixed32 a=1;}", "0d ff ff ff ff", 1, "0d ff ff ff ff");
    }

    /** "a value has at most 200 values (in rows, too; ..)" */
    private static void limitOf200Values() {
        for (int many = 198; many <= 203; many++) {
            String due = many <= 200 ? Integer.toString(many) : BEYOND;
            String length = byteOf(many & 127 | 128) + " 01";
            Desk d = new Desk().schema("message A{repeated bool a=1;repeated string b=2;}");
            Expect.same("packed", due, d.hex("0a " + length + " 00".repeat(many)).decode(0, 1));
            Expect.same("one by one", due, d.hex("08 01".repeat(many)).decode(0, 1));
            Expect.same("texts", due, d.hex("12 00".repeat(many)).decode(0, 1));
            Desk t = new Desk().schema("message A{repeated A b=2;}");
            Expect.same("parsed", due, t.text("b{}".repeat(many)).parse(0, 2));
        }
        Desk d = new Desk().schema("message A{repeated int32 a=1;}");
        Expect.same("175 parsed numbers", "175", d.text("a:0 ".repeat(175)).parse(0, 1));
        Expect.same("many more than the limit", BEYOND, d.hex("0a b9 05" + " 01".repeat(697)).decode(0, 1));
    }

    /** "messages count" */
    private static void limitOf200ValuesOfATree() {
        String schema = "message A{repeated A a=1;int32 b=2;repeated bool c=3;}";
        for (int many = 98; many <= 102; many++) {
            String due = 2 * many <= 200 ? Integer.toString(2 * many) : BEYOND;
            Desk d = new Desk().schema(schema);
            Expect.same("messages with a value each", due, d.hex("0a 02 10 01 ".repeat(many)).decode(0, 2));
            Expect.same("messages with one each", due, d.hex("0a 02 0a 00 ".repeat(many)).decode(0, 3));
            Expect.same("parsed", due, d.text("a{a{}}".repeat(many)).parse(0, 3));
        }
        Desk d = new Desk().schema(schema);
        Expect.same("199 and the message around", "200", d.hex("0a ca 01 1a c7 01" + " 01".repeat(199)).decode(0, 2));
        Expect.same("200 and the message around", BEYOND, d.hex("0a cb 01 1a c8 01" + " 01".repeat(200)).decode(0, 2));
        Expect.same("200 and one at the top", BEYOND, d.hex("1a c8 01" + " 01".repeat(200) + "10 01").decode(0, 2));
        Expect.same("200 and a 0 at the top", "200", d.hex("1a c8 01" + " 01".repeat(200) + "10 00").decode(0, 2));
    }

    private static void whatIsNoValueIsNotCounted() {
        Desk d = new Desk().schema("message A{int32 a=1;oneof o{int32 b=2;int32 c=3;}A m=4;repeated A r=5;}");
        Expect.same("the same field", "1", d.hex("08 01 ".repeat(350)).decode(0, 1));
        Expect.same("the same message", "1", d.hex("22 00 ".repeat(350)).decode(0, 2));
        Expect.same("a oneof's others", "1", d.hex("10 01 18 01 ".repeat(175)).decode(0, 1));
        Expect.same("unknown bytes", "0", d.hex("30 01 ".repeat(350)).decode(0, 1));
        Expect.same("zeros in 116 messages", "116", d.hex("2a 04 08 00 30 01 ".repeat(116)).decode(0, 2));
    }

    /** "and 1,000 bytes of texts and unknown bytes": a tape has fewer, so that every one of them is right. */
    private static void limitOfBytes() {
        Desk d = new Desk().schema("message A{bytes a=1;repeated bytes b=2;}");
        String most = "0a b9 05" + " fe".repeat(697);
        Expect.same("697 bytes in a text", "1", d.hex(most).decode(0, 1));
        Expect.same("encode", 700, d.desk.encode());
        Expect.same("700 unknown bytes", "0", d.hex("2a b9 05" + " fe".repeat(697)).decode(0, 1));
        Expect.same("encode", 700, d.desk.encode());
        Desk e = new Desk().schema("message A{bytes a=1;repeated bytes b=2;}");
        Expect.same("a text that replaces one", "1", e.hex("0a af 02" + " fe".repeat(303) + "0a 87 03"
                + " fd".repeat(391)).decode(0, 1));
        Expect.same("encode", 394, e.desk.encode());
        Expect.same("697 in texts' words", "1", e.text("a:\"" + "x".repeat(696) + "\"").parse(0, 1));
        Expect.same("encode", 699, e.desk.encode());
    }

    /** "IllegalStateException: it is beyond the limits (and not wrong)" */
    private static void wrongGoesBeforeBeyond() {
        String schema = "message A{repeated bool a=1;repeated A b=2;string c=3;}";
        String many = "0a c9 01" + " 01".repeat(201);
        Expect.same("beyond", BEYOND, new Desk().schema(schema).hex(many).decode(0, 1));
        for (String end : new String[] {" 08", " 00 01", " 0b", " 12 00", " 1a 01 80", " 1a 02 41"}) {
            Expect.same("beyond and wrong" + end, WRONG, new Desk().schema(schema).hex(many + end).decode(0, 1));
        }
        Expect.same("parsed beyond", BEYOND, new Desk().schema(schema).text("b{}".repeat(201)).parse(0, 2));
        for (String end : new String[] {"b", "}", "c:''c:''", "c:\"\\200\"", "b{b{}}", "x:1", "\0"}) {
            Expect.same("parsed beyond and wrong" + end, WRONG,
                    new Desk().schema(schema).text("b{}".repeat(201) + end).parse(0, 2));
        }
    }

    /** "There is no value then." */
    private static void thereIsNoValueThen() {
        String schema = "message A{repeated bool a=1;repeated A b=2;}";
        Desk d = new Desk().schema(schema);
        for (int way = 0; way < 8; way++) {
            d.hex("08 01").decode(0, 1);
            Expect.same("a value", 3, d.desk.encode());
            boolean parse = way >= 4;
            String tape = way % 4 == 0 ? "\1" : way % 4 == 1 ? "b{}".repeat(201) : "";
            if (way == 1) {
                tape = "\012\311\001" + "\0".repeat(201);
            }
            int message = way % 4 == 2 ? 1 : 0;
            int depth = way % 4 == 3 ? 0 : 2;
            d.text(tape);
            String answer = parse ? d.parse(message, depth) : d.decode(message, depth);
            Expect.same("way " + way, way % 4 == 1 ? BEYOND : WRONG, answer);
            Expect.state("no value to encode", d.desk::encode);
            Expect.state("no value to print", d.desk::print);
        }
    }

    /** "no such schema or message, depth is not 1 .. 20" */
    private static void wrongArguments() {
        Desk d = new Desk().schema(0, "message A{}message B{}").schema(1, "message A{}");
        int[] numbers = {Integer.MIN_VALUE, -2, -1, 0, 1, 2, 3, 19, 20, 21, 22, Integer.MAX_VALUE};
        for (int k : numbers) {
            String due = k == 0 || k == 1 ? "0" : WRONG;
            Expect.same("decode of schema " + k, due, Expect.answer(() -> d.desk.decode(k, 0, 1)));
            Expect.same("parse of schema " + k, due, Expect.answer(() -> d.desk.parse(k, 0, 1)));
            Expect.same("decode of message " + k, due, Expect.answer(() -> d.desk.decode(0, k, 1)));
            Expect.same("parse of message " + k, due, Expect.answer(() -> d.desk.parse(0, k, 1)));
            String other = k == 0 ? "0" : WRONG;
            Expect.same("decode of the other schema's " + k, other, Expect.answer(() -> d.desk.decode(1, k, 1)));
            Expect.same("parse of the other schema's " + k, other, Expect.answer(() -> d.desk.parse(1, k, 1)));
            String depth = k >= 1 && k <= 20 ? "0" : WRONG;
            Expect.same("decode with depth " + k, depth, Expect.answer(() -> d.desk.decode(0, 0, k)));
            Expect.same("parse with depth " + k, depth, Expect.answer(() -> d.desk.parse(0, 0, k)));
        }
    }
}
