/**
 * The document's sentences about schemas that name an edge, a method each: words, members, errors with their places,
 * the lookup of types, the limits (the terms' part SCHEMAS; promises 3, 6 and 7).
 */
public final class EdgeSchemaTest {
    private static final String[] TYPES = {"int32", "int64", "uint32", "uint64", "sint32", "sint64", "fixed32",
        "fixed64", "sfixed32", "sfixed64", "bool", "string", "bytes"};
    private static final int AT = Marked.SYNTAX.length();

    public static void main(String[] args) {
        blanksAreFour();
        lineCommentsEndAtByte10();
        otherCommentsEndAtTheirSigns();
        commentsStandBetweenWords();
        namesBeginWithALetter();
        namesGoOnWithLettersDigitsAndLines();
        numbersHaveNoZeroInFront();
        numbersOfSixteen();
        numbersHaveNoLetterBehind();
        numbersAreNoSigns();
        theSyntaxTextIsOne();
        aSchemaBeginsWithItsSyntax();
        everyWordMustStandThere();
        messagesMayBeEmptyAndHaveSingleSigns();
        oneofsHaveAtLeastOneField();
        enumsHaveAtLeastOneValue();
        oneofFieldsAreNotRepeated();
        packedIsForRowsOfNumbersAlone();
        typesAreNamesWithoutAPointInFront();
        fourWordsAreNoTypesWithoutAPointInFront();
        placesAreOfFirstBytes();
        theEndIsAtTheTextsLength();
        error2IsWhereSomethingCanBegin();
        error2IsNowhereElse();
        errors1And2AreToldAsTheyCome();
        errors3To6AreToldInTheTextsOrder();
        error7IsToldLast();
        namesOfTheTopAreInOneScope();
        namesOfAMessageAreInOneScope();
        sameNamesInOtherScopesAreRight();
        fieldNumbersHaveBounds();
        fieldNumbersAreOnceInAMessage();
        theFirstValueIsZero();
        valuesAreInts();
        limitsOfASchema();
        namesHaveUpTo600Bytes();
        lookupFromTheTop();
        lookupFromTheMessageOutward();
        theRestMustBeThere();
        aSchemaWithAnErrorIsEmpty();
        messagesAreNumberedAsTheyBegin();
        fieldTellsMinusOneOfNoneSuch();
        fieldsAreNumberedByRisingNumber();
        findTakesTheWholeName();
        Expect.end();
    }

    private static boolean isBlank(int b) {
        return b == 9 || b == 10 || b == 13 || b == 32;
    }

    private static boolean isLetter(int b) {
        return b < 128 && Character.isLetter(b);
    }

    private static boolean isDigit(int b) {
        return b < 128 && Character.isDigit(b);
    }

    private static boolean isWordByte(int b) {
        return isLetter(b) || isDigit(b) || b == '_';
    }

    /** Compiles what stands behind the syntax line, a byte of which is shown by its number if it goes wrong. */
    private static void outcome(String what, int b, String due, String rest) {
        Expect.same(what + " with byte " + b, due, Marked.outcome(rest));
    }

    private static String at(int error, int place) {
        return error + " " + (AT + place);
    }

    private static final String NONE = "0 -1";

    /** "Blanks (9, 10, 13, 32) .. may stand between words." */
    private static void blanksAreFour() {
        for (int b = 0; b < 256; b++) {
            outcome("a byte at the top", b, isBlank(b) ? NONE : at(1, 0), (char) b + "message A{}");
            outcome("a byte at the end", b, isBlank(b) ? NONE : at(1, 11), "message A{}" + (char) b);
        }
    }

    /** "// to a byte 10 or the text's end" */
    private static void lineCommentsEndAtByte10() {
        for (int b = 0; b < 256; b++) {
            outcome("a comment", b, b == 10 ? at(1, 3) : NONE, "//" + (char) b + "x");
        }
        Marked.good("//");
        Marked.good("// /* x");
        Marked.bad(1, "~/");
        Marked.bad(1, "~/ /\n");
    }

    /** "/ and * to * and /" */
    private static void otherCommentsEndAtTheirSigns() {
        Marked.good("/**/");
        Marked.good("/***/");
        Marked.good("/* * / */");
        Marked.good("/* \n // \" */message A{}");
        Marked.good("/*/*/");
        Marked.bad(1, "/*/~");
        Marked.bad(1, "/* * /~");
        Marked.bad(1, "/* */~*/");
        Marked.bad(1, "/* /* */ ~*/");
        for (int b = 0; b < 256; b++) {
            outcome("in a comment", b, NONE, "/*" + (char) b + "*/");
            outcome("between the last two", b, b == '*' ? NONE : at(1, b == '/' ? 4 : 5), "/**" + (char) b + "/");
        }
    }

    private static void commentsStandBetweenWords() {
        String[] words = {"syntax", "=", "\"proto3\"", ";", "message", "A", "{", "repeated", "B", ".", "C", "a", "=",
            "0x1f", "[", "packed", "=", "false", "]", ";", "oneof", "o", "{", "int32", "b", "=", "2", ";", "}", "}",
            "message", "B", "{", "enum", "C", "{", "D", "=", "0", ";", "E", "=", "-", "1", ";", "}", ";", "}"};
        for (String between : new String[] {" ", "\t", "\r", "\n", "/**/", "//\n", " /* \" */ // x\n\n"}) {
            for (int k = -1; k <= words.length; k++) {
                // All words with one blank between, but for one place.
                StringBuilder text = new StringBuilder(k == -1 ? between : "");
                for (int j = 0; j < words.length; j++) {
                    text.append(words[j]).append(j == k ? between : " ");
                }
                Marked.whole(0, text + (k == words.length ? between : ""));
            }
        }
        Marked.bad(1, "~mes/**/sage A{}");
        Marked.bad(1, "message A { int/**/~32 = 1; }");
    }

    /** "NAMES (a letter, ..)" */
    private static void namesBeginWithALetter() {
        for (int b = 0; b < 256; b++) {
            String due = isLetter(b) ? NONE : at(1, isBlank(b) ? 9 : 8);
            outcome("a name's first byte", b, due, "message " + (char) b + "{}");
        }
    }

    /** "(.., then letters, digits, _)" */
    private static void namesGoOnWithLettersDigitsAndLines() {
        for (int b = 0; b < 256; b++) {
            String due = isWordByte(b) || isBlank(b) ? NONE : at(1, b == '{' ? 10 : 9);
            outcome("a name's second byte", b, due, "message A" + (char) b + "{}");
            if (isWordByte(b)) {
                Desk d = new Desk().schema("message A" + (char) b + " { int32 a" + (char) b + "z=1; }");
                Expect.same("found by its name", 0, d.text("A" + (char) b).desk.find(0));
                Expect.same("a name of three", 3, d.desk.field(0, 0, 0, 5));
            }
        }
    }

    private static String number(String number) {
        return "message A{int32 a=" + number + ";}";
    }

    /** "NUMBERS (0, or digits without 0 in front; ..)" */
    private static void numbersHaveNoZeroInFront() {
        for (int b = 0; b < 256; b++) {
            boolean right = b >= '1' && b <= '9';
            String due = right ? NONE : b == '0' ? at(4, 18) : at(1, isBlank(b) ? 19 : 18);
            outcome("a number's byte", b, due, number("" + (char) b));
        }
        for (String zeros : new String[] {"00", "01", "010", "0001", "0_", "0a"}) {
            Marked.bad(1, number("~" + zeros));
        }
        Marked.bad(6, "enum A{B=~10;}");
        Marked.bad(1, "enum A{B=~00;}");
        Marked.bad(1, "enum A{B=0;C=-~01;}");
    }

    /** "0x and digits of sixteen" */
    private static void numbersOfSixteen() {
        for (int b = 0; b < 256; b++) {
            int digit = b < 128 ? Character.digit(b, 16) : -1;
            String due = digit > 0 ? NONE : digit == 0 ? at(4, 18) : at(1, 18);
            outcome("a digit of sixteen", b, due, number("0x" + (char) b));
            if (digit > 0) {
                Desk d = new Desk().schema(number("0x1" + (char) b));
                Expect.same("0x1" + (char) b, 16 + digit, d.desk.field(0, 0, 0, 0));
            }
        }
        Marked.good(number("0x00000000000000000000001"));
        Marked.good(number("0x1fffffff"));
        Marked.bad(4, number("~0x20000000"));
        Marked.bad(4, number("~0x10000000000000001"));
        Marked.bad(1, number("~0X1"));
        Marked.bad(1, number("~1x1"));
        Marked.bad(1, number("~9xa"));
        Marked.bad(1, number("~00x1"));
        Marked.bad(1, number("~0x"));
        Marked.bad(1, number("0~-1"));
    }

    /** "not with a letter, digit or _ right behind" */
    private static void numbersHaveNoLetterBehind() {
        for (int b = 0; b < 256; b++) {
            boolean word = isLetter(b) || b == '_';
            boolean right = isDigit(b) || isBlank(b) || b == ';';
            String due = right ? NONE : at(1, word ? 18 : b == '[' ? 20 : 19);
            outcome("behind a number", b, due, number("1" + (char) b));
            boolean sixteen = b < 128 && Character.digit(b, 16) >= 0;
            due = right || sixteen ? NONE : at(1, word ? 18 : b == '[' ? 22 : 21);
            outcome("behind a number of sixteen", b, due, number("0x1" + (char) b));
        }
    }

    /** A number is a word of its own, also where it is a sign's code. */
    private static void numbersAreNoSigns() {
        Marked.whole(1, "syntax ~61 \"proto3\";");
        Marked.whole(1, "syntax=\"proto3\" ~59 ");
        String[] members = {"int32 a ~61 1;", "int32 a=1 ~59 ", "~59 ", "repeated int32 a=1 ~91 packed=true];",
            "repeated int32 a=1[packed ~61 true];", "repeated int32 a=1[packed=true ~93 ;", "oneof o ~123 int32 a=1;}",
            "oneof o{int32 a=1; ~125 ", "A ~46 B a=1;message B{}", "~46 A a=1;"};
        for (String member : members) {
            Marked.bad(1, "message A{" + member + "}");
        }
        Marked.bad(1, "message A ~123 }");
        Marked.bad(1, "message A{ ~125 ");
        Marked.bad(1, "enum A{B=0;C=45 ~1;}");
        Marked.bad(1, "enum A{B=0; ~125 ");
    }

    /** "A schema is: syntax = "proto3" ;" */
    private static void theSyntaxTextIsOne() {
        for (int b = 0; b < 256; b++) {
            Desk d = new Desk().text("syntax=\"proto3" + (char) b + "\";");
            Expect.same("a longer text", 1, d.desk.compile(0));
            Expect.same("its place, with byte " + b, b == '"' ? 15 : 7, d.desk.place());
        }
        for (String text : new String[] {"proto2", "proto", "Proto3", " proto3", "", "proto3proto3"}) {
            Marked.whole(1, "syntax=~\"" + text + "\";");
        }
        Marked.whole(1, "syntax=~'proto3';");
        Marked.whole(1, "syntax=~proto3;");
        Marked.whole(1, "syntax=~\"proto3");
    }

    private static void aSchemaBeginsWithItsSyntax() {
        Marked.whole(0, "syntax=\"proto3\";");
        Marked.whole(1, "~");
        Marked.whole(1, "~message A{}");
        Marked.whole(1, "~enum A{B=0;}");
        Marked.whole(1, "~;syntax=\"proto3\";");
        Marked.whole(1, "syntax=\"proto3\"~message A{}");
        Marked.bad(1, "~syntax=\"proto3\";");
        Marked.bad(1, "message A{}~syntax=\"proto3\";");
        Marked.bad(1, "~;");
        Marked.bad(1, "~int32 a=1;");
        Marked.bad(1, "~oneof o{int32 a=1;}");
    }

    /** "1 a word that can't be, or can't stand there": a word is missing in front of the mark. */
    private static void everyWordMustStandThere() {
        String[] syntax = {"~=\"proto3\";", "syntax ~\"proto3\";", "syntax=~;", "syntax=\"proto3\"~message A{}",
            "~\"proto3\";", "~;"};
        for (String text : syntax) {
            Marked.whole(1, text);
        }
        String[] declarations = {"~A{}", "message ~{}", "message A~}", "message A ~int32 a=1;}", "message A{}~}",
            "enum ~{B=0;}", "enum A ~B=0;}", "enum A{~=0;}", "enum A{B ~0;}", "enum A{B=~;}", "enum A{B=0~}",
            "enum A{B=0 ~C=1;}", "enum A{B=0;~"};
        for (String text : declarations) {
            Marked.bad(1, text);
        }
        String[] members = {"int32 ~=1;", "a ~=1;", "int32 a ~1;", "int32 a=~;", "int32 a=1~}", "int32 a=1 ~int32 b=2;",
            "repeated ~=1;", "repeated a ~=1;", "A.~=1;", "A. a ~=1;", ".~=1;", "A .~=1;",
            "repeated int32 a=1 ~packed=true];", "repeated int32 a=1[~=true];", "repeated int32 a=1[packed ~true];",
            "repeated int32 a=1[~true];", "repeated int32 a=1[packed=~];", "repeated int32 a=1[packed=true~;",
            "repeated int32 a=1[packed=true]~}", "oneof ~{int32 a=1;}", "oneof o ~int32 a=1;}", "oneof o{~=1;}",
            "oneof o{int32 ~=1;}", "oneof o{int32 a ~1;}", "oneof o{int32 a=1~}", "~{int32 a=1;}"};
        for (String text : members) {
            Marked.bad(1, "message A{" + text + "}");
        }
    }

    /** "message NAME { .. } has fields, oneofs, messages, enums, single ; ." */
    private static void messagesMayBeEmptyAndHaveSingleSigns() {
        Marked.good("message A{}");
        Marked.good("message A{;}");
        Marked.good("message A{;;int32 a=1;;oneof o{int32 b=2;};message B{;};enum C{D=0;};}");
        Marked.bad(1, "message A{}~;");
        Marked.bad(1, "message A{~,}");
        Marked.bad(1, "message A~;");
        Marked.bad(1, "message A{}~}");
        Marked.bad(1, "message A{~");
    }

    /** "oneof NAME { fields without repeated, at least one }" */
    private static void oneofsHaveAtLeastOneField() {
        Marked.bad(1, "message A{oneof o{~}}");
        Marked.good("message A{oneof o{int32 a=1;}}");
        Marked.good("message A{oneof o{int32 a=1;string b=2;}}");
        Marked.bad(1, "message A{oneof o{~;}}");
        Marked.bad(1, "message A{oneof o{int32 a=1;~;}}");
        Marked.bad(1, "message A{oneof o{int32 a=1;}oneof p{~}}");
    }

    private static void oneofFieldsAreNotRepeated() {
        Marked.bad(1, "message A{oneof o{~repeated int32 a=1;}}");
        Marked.bad(1, "message A{oneof o{int32 a=1;~repeated int32 b=2;}}");
        Marked.bad(1, "message A{oneof o{~message B{}}}");
        Marked.bad(1, "message A{oneof o{~enum B{C=0;}}}");
        Marked.bad(1, "message A{oneof o{~oneof p{int32 a=1;}}}");
    }

    /** "enum NAME { NAME = NUMBER ; .. } at least one, a NUMBER perhaps with - before it." */
    private static void enumsHaveAtLeastOneValue() {
        Marked.bad(1, "enum A{~}");
        Marked.good("enum A{B=0;}");
        Marked.bad(1, "enum A{~;}");
        Marked.bad(1, "enum A{B=0;~;}");
        Marked.bad(1, "message M{enum A{~}}");
        Marked.bad(1, "enum A{B=0;}enum C{~}");
        Marked.good("enum A{B=0;C=-1;D=- 1;E=-/**/0x1;F=-0;}");
        Marked.bad(1, "enum A{B=0;C=-~-1;}");
        Marked.bad(1, "enum A{B=0;C=~+1;}");
        Marked.bad(1, "message A{int32 a=~-1;}");
    }

    /** "[ packed = true ] or false (repeated of numbers alone, else ERROR 6)" */
    private static void packedIsForRowsOfNumbersAlone() {
        String[] types = new String[15];
        System.arraycopy(TYPES, 0, types, 0, 13);
        types[13] = "A";
        types[14] = "E";
        for (int type = 0; type < 15; type++) {
            boolean numbers = type != 11 && type != 12 && type != 13;
            for (String packed : new String[] {"true", "false"}) {
                String field = types[type] + " a=1[~packed=" + packed + "];";
                Marked.bad(6, "enum E{Z=0;}message A{" + field + "}");
                Marked.bad(6, "enum E{Z=0;}message A{oneof o{" + field + "}}");
                String row = "enum E{Z=0;}message A{repeated " + field + "}";
                Marked.whole(numbers ? 0 : 6, Marked.SYNTAX + (numbers ? row.replace("~", "") : row));
            }
        }
        Marked.bad(1, "message A{repeated int32 a=1[packed=~0];}");
        Marked.bad(1, "message A{repeated int32 a=1[packed=~\"true\"];}");
        Marked.bad(1, "message A{repeated int32 a=1[~];}");
        Marked.bad(1, "message A{repeated int32 a=1[~lazy=true];}");
        Marked.bad(1, "message A{repeated int32 a=1[packed=true~;}");
    }

    /** "TYPES (a first name of these, without a point in front, is that type)" */
    private static void typesAreNamesWithoutAPointInFront() {
        for (int type = 0; type < TYPES.length; type++) {
            String name = TYPES[type];
            Desk d = new Desk().schema("message " + name + "{" + name + " a=1;." + name + " b=2;}");
            Expect.same(name + " is that type", type, d.desk.field(0, 0, 0, 1));
            Expect.same("." + name + " is the message", 13, d.desk.field(0, 0, 1, 1));
            Marked.bad(1, "message " + name + "{message B{}" + name + "~.B a=1;}");
            Marked.bad(5, "message A{~." + name + " a=1;}");
            Marked.good("message A{A." + name + " a=1;message " + name + "{}}");
            Marked.bad(5, "message A{~" + name + "x a=1;}");
        }
        for (String none : new String[] {"double", "float", "int16", "Int32", "boolean"}) {
            Marked.bad(5, "message A{~" + none + " a=1;}");
        }
    }

    /** "message, enum, oneof, repeated are no such name without one" */
    private static void fourWordsAreNoTypesWithoutAPointInFront() {
        for (String word : new String[] {"message", "enum", "oneof", "repeated"}) {
            String declared = "message " + word + "{message B{}}";
            Marked.good(declared + "message A{." + word + " a=1;repeated ." + word + ".B b=2;oneof o{." + word
                    + " c=3;}}");
            Marked.bad(1, declared + "message A{repeated ~" + word + " a=1;}");
            Marked.bad(1, declared + "message A{oneof o{~" + word + " a=1;}}");
            Marked.bad(1, declared + "message A{repeated ~" + word + ".B a=1;}");
            Marked.good("message A{A." + word + " a=1;message " + word + "{}}");
            Marked.good("message A{int32 " + word + "=1;}");
            Marked.good("enum A{" + word + "=0;}");
        }
        Marked.good("message syntax{syntax packed=1;}message packed{packed true=1;}");
    }

    /** "a PLACE (of the word's first byte, of a number with - that of the -, of a name with points ..)" */
    private static void placesAreOfFirstBytes() {
        Marked.bad(1, "message AAA ~BBB {}");
        Marked.bad(1, "message A { int32 a = ~007; }");
        Marked.bad(6, "enum A { B = ~-7; }");
        Marked.bad(6, "enum A { B = ~-  7; }");
        Marked.bad(6, "enum A { B = 0; C = ~- /* */ 2147483649; }");
        Marked.bad(6, "enum A { B = 0; C = ~ -2147483649; }".replace("~ ", " ~"));
        Marked.bad(5, "message A { ~B.C.D a = 1; message B {} }");
        Marked.bad(5, "message A { ~A . C a = 1; message B {} }");
        Marked.bad(5, "message A { repeated ~A.C a = 1; message B {} }");
        Marked.bad(3, "message A { int32 abc = 1; int32 ~abc = 2; }");
        Marked.bad(4, "message A { int32 abc = ~19000; }");
        Marked.bad(6, "message A { int32 abc = 1 [ ~packed = true ]; }");
        Marked.bad(2, "message A { } ~import");
    }

    /** "the text's length at its end, also in a comment that is not closed" */
    private static void theEndIsAtTheTextsLength() {
        String text = "syntax=\"proto3\";message A{repeated B.C a=1[packed=true];oneof o{int32 b=2;}}";
        // Each word's end, with blanks behind it: the next word is missing.
        for (int cut = 0; cut < text.length(); cut++) {
            boolean between = cut == 0 || !Character.isLetterOrDigit(text.charAt(cut - 1))
                    || !Character.isLetterOrDigit(text.charAt(cut));
            boolean inText = cut > 7 && cut < 15;
            if (between && !inText && cut != AT) {
                Marked.whole(1, text.substring(0, cut) + "~");
                Marked.whole(1, text.substring(0, cut) + " \n ~");
                Marked.whole(1, text.substring(0, cut) + " // x~");
                Marked.whole(1, text.substring(0, cut) + " /* x */ /* x ~");
            }
        }
        Marked.bad(1, "message A{}/*~");
        Marked.bad(1, "/*~");
        Marked.bad(1, "/* * // \n ~");
    }

    private static final String[] FORBIDDEN = {"import", "package", "option", "service", "extend", "map", "optional",
        "required", "group", "extensions", "reserved", "rpc"};

    /** "2 where a declaration, a member or an enum's value can begin" */
    private static void error2IsWhereSomethingCanBegin() {
        for (String word : FORBIDDEN) {
            Marked.bad(2, "~" + word);
            Marked.bad(2, "message A{}~" + word + " \1");
            Marked.bad(2, "enum A{B=0;}~" + word);
            Marked.bad(2, "message A{~" + word);
            Marked.bad(2, "message A{;~" + word + ".x a=1;}");
            Marked.bad(2, "message A{int32 a=1;~" + word + " b=2;}");
            Marked.bad(2, "message A{message B{}~" + word + "<int32,int32> b=2;}");
            Marked.bad(2, "message A{oneof o{~" + word + " b=2;}}");
            Marked.bad(2, "message A{oneof o{int32 a=1;~" + word + " b=2;}}");
            Marked.bad(2, "message A{oneof o{int32 a=1;}~" + word + " b=2;}");
            Marked.bad(2, "enum A{~" + word + "=0;}");
            Marked.bad(2, "enum A{B=0;~" + word + " allow_alias=true;}");
        }
    }

    private static void error2IsNowhereElse() {
        for (String word : FORBIDDEN) {
            Marked.good("message " + word + "{int32 " + word + "=1;repeated " + word + " a=2;." + word + " b=3;}");
            Marked.good("enum " + word + "{B=0;}message A{oneof " + word + "{." + word + " a=1;}}");
            Marked.good("message A{A." + word + " a=1;message " + word + "{}}");
            Marked.bad(5, "message A{~" + word + "s a=1;}");
            Marked.bad(5, "message A{repeated ~" + word + " a=1;}");
            Marked.bad(1, "message A{int32 a=~" + word + ";}");
            Marked.bad(1, "message A ~" + word + "{}");
            Marked.bad(1, "enum A{B=~" + word + ";}");
            Marked.bad(1, "message A{repeated int32 a=1[~" + word + "=true];}");
            Marked.whole(1, "~" + word + " \"x\";syntax=\"proto3\";");
        }
        Marked.bad(1, "~stream");
        Marked.bad(5, "message A{~oneofs a=1;}");
    }

    private static final String[] FAULTS = {"int32 n=100;int32 ~n=101;", "int32 q=~0;", "~X x=102;",
        "int32 p=103[~packed=true];", "enum V{W=~3;}"};
    private static final int[] THEIR_ERRORS = {3, 4, 5, 6, 6};

    /** "These two are told as they come." */
    private static void errors1And2AreToldAsTheyCome() {
        for (String fault : FAULTS) {
            String body = fault.replace("~", "");
            Marked.bad(1, "message A{" + body + "}~;");
            Marked.bad(2, "message A{" + body + "}~option");
            Marked.bad(2, "message A{" + body + "~option;} ;");
            Marked.bad(1, "message A{" + body + "int32 a=~01;}option");
        }
        Marked.bad(1, "message A{~= option}");
        Marked.bad(2, "message A{~option = =}");
        Marked.bad(1, "~\377 option");
        Marked.bad(2, "~option \377");
        Marked.bad(2, "~option /*");
        Marked.bad(1, "message A{message B{}message B{}/*~");
    }

    /** "When the whole text is right so far, in the order of the text .., the first of" */
    private static void errors3To6AreToldInTheTextsOrder() {
        for (int first = 0; first < FAULTS.length; first++) {
            for (int second = 0; second < FAULTS.length; second++) {
                if (first != second) {
                    Marked.bad(THEIR_ERRORS[first], "message A{" + FAULTS[first] + FAULTS[second].replace("~", "")
                            + "}");
                    Marked.bad(THEIR_ERRORS[first], "message A{message B{" + FAULTS[first] + "}"
                            + FAULTS[second].replace("~", "") + "}");
                    Marked.bad(THEIR_ERRORS[first], "message A{" + FAULTS[first] + "}message B{"
                            + FAULTS[second].replace("~", "") + "}");
                }
            }
        }
        // In one field: its type, its name, its number, packed.
        Marked.bad(5, "message A{int32 n=1;~X n=1[packed=true];}");
        Marked.bad(3, "message A{int32 n=1;string ~n=1[packed=true];}");
        Marked.bad(4, "message A{int32 n=1;string m=~1[packed=true];}");
        Marked.bad(6, "message A{int32 n=1;string m=2[~packed=true];}");
        // In one value: its name, its number.
        Marked.bad(3, "enum A{~A=5;}");
        Marked.bad(6, "enum A{B=~5;A=0;}");
    }

    private static String times(int many, String form) {
        StringBuilder text = new StringBuilder();
        for (int k = 1; k <= many; k++) {
            String name = "" + (char) ('a' + k / 26) + (char) ('A' + k % 26);
            text.append(form.replace("@", name).replace("#", Integer.toString(k)));
        }
        return text.toString();
    }

    /** "7 (at the text's length)" */
    private static void error7IsToldLast() {
        String many = times(17, "message @{}");
        Marked.bad(7, many + "~");
        Marked.bad(7, many + " // x~");
        for (int k = 0; k < FAULTS.length; k++) {
            Marked.bad(THEIR_ERRORS[k], many + "message A{" + FAULTS[k] + "}");
        }
        Marked.bad(1, many + "~;");
        Marked.bad(2, many + "~map");
    }

    /** "3 a NAME that is in its scope already (of the top: messages, enums, values of enums at the top; ..)" */
    private static void namesOfTheTopAreInOneScope() {
        String[] first = {"message N{}", "enum N{P=0;}", "enum Q{N=0;}", "enum Q{R=0;N=1;}"};
        String[] second = {"message ~N{}", "enum ~N{S=0;}", "enum T{~N=0;}", "enum T{U=0;~N=1;}"};
        for (String one : first) {
            for (String other : second) {
                Marked.bad(3, one + other);
                Marked.bad(3, one + "message A{}" + other);
            }
        }
        Marked.bad(3, "enum N{~N=0;}");
        Marked.bad(3, "enum Q{N=0;~N=0;}");
    }

    /** "of a message: fields, oneofs, messages, enums in it, values of its enums; a oneof's fields are .." */
    private static void namesOfAMessageAreInOneScope() {
        String[] first = {"int32 N=1;", "oneof N{int32 a=2;}", "oneof b{int32 N=3;}", "message N{}", "enum N{P=0;}",
            "enum Q{N=0;}"};
        String[] second = {"int32 ~N=4;", "oneof ~N{int32 c=5;}", "oneof d{int32 ~N=6;}", "message ~N{}",
            "enum ~N{S=0;}", "enum T{~N=0;}"};
        for (String one : first) {
            for (String other : second) {
                Marked.bad(3, "message A{" + one + other + "}");
                Marked.bad(3, "message A{" + one + "message B{int32 N=1;}" + other + "}");
            }
        }
        Marked.bad(3, "message A{oneof N{int32 ~N=1;}}");
        Marked.bad(3, "message A{enum N{~N=0;}}");
        Marked.bad(3, "message A{oneof o{int32 N=1;int32 ~N=2;}}");
    }

    private static void sameNamesInOtherScopesAreRight() {
        String[] members = {"int32 N=1;", "oneof N{int32 a=2;}", "oneof b{int32 N=3;}", "message N{}", "enum N{P=0;}",
            "enum Q{N=0;}"};
        for (String one : members) {
            for (String other : members) {
                Marked.good("message A{" + one + "}message B{" + other + "}");
                Marked.good("message A{" + one + "message B{" + other + "}}");
                Marked.good("message N{" + one + "}");
                Marked.good("enum O{N=0;}message A{" + one + "}");
            }
        }
        Marked.good("message A{message A{message A{int32 A=1;}}}");
        Marked.good("message A{int32 n=1;int32 nn=2;int32 N=3;int32 n_=4;}");
    }

    /** "4 a field's number that is not 1 .. 536870911, is 19000 .. 19999" */
    private static void fieldNumbersHaveBounds() {
        for (String right : new String[] {"1", "2", "18999", "20000", "536870910", "536870911", "0x1", "0x4e20"}) {
            Marked.good(number(right));
        }
        for (String wrong : new String[] {"0", "19000", "19001", "19500", "19998", "19999", "536870912", "2147483647",
            "2147483648", "4294967295", "4294967296", "4294967297", "18446744073709551616", "18446744073709551617",
            "100000000000000000000000000000000000001", "0x0", "0x4a38", "0x4e1f", "0x100000001",
            "0x10000000000000001"}) {
            Marked.bad(4, number("~" + wrong));
        }
    }

    /** "or is in the message already" */
    private static void fieldNumbersAreOnceInAMessage() {
        Marked.bad(4, "message A{int32 a=7;int32 b=~7;}");
        Marked.bad(4, "message A{int32 a=7;int32 b=~0x7;}");
        Marked.bad(4, "message A{int32 a=7;oneof o{int32 b=~7;}}");
        Marked.bad(4, "message A{oneof o{int32 a=7;}int32 b=~7;}");
        Marked.bad(4, "message A{oneof o{int32 a=7;int32 b=~7;}}");
        Marked.bad(4, "message A{oneof o{int32 a=7;}oneof p{int32 b=~7;}}");
        Marked.bad(4, "message A{int32 a=7;int32 b=1;int32 c=536870911;int32 d=~7;}");
        Marked.good("message A{int32 a=7;message B{int32 b=7;}}message C{int32 c=7;}");
    }

    /** "6 the first value of an enum is not 0" */
    private static void theFirstValueIsZero() {
        for (String zero : new String[] {"0", "-0", "0x0", "-0x00", "0x000"}) {
            Marked.good("enum A{B=" + zero + ";C=5;}");
        }
        for (String other : new String[] {"1", "-1", "0x1", "2147483647", "-2147483648", "4294967296",
            "18446744073709551616"}) {
            Marked.bad(6, "enum A{B=~" + other + ";C=0;}");
            Marked.bad(6, "message M{enum A{B=~" + other + ";}}");
            Marked.bad(6, "enum X{Y=0;}enum A{B=~" + other + ";}");
        }
    }

    /** "or one not -2147483648 .. 2147483647" */
    private static void valuesAreInts() {
        for (String right : new String[] {"2147483647", "-2147483648", "0x7fffffff", "-0x80000000", "-1", "0", "7"}) {
            Marked.good("enum A{B=0;C=" + right + ";}");
        }
        for (String wrong : new String[] {"2147483648", "-2147483649", "0x80000000", "-0x80000001", "4294967295",
            "4294967296", "-4294967296", "18446744073709551615", "18446744073709551616", "-18446744073709551616",
            "0xffffffff", "0x10000000000000000"}) {
            Marked.bad(6, "enum A{B=0;C=~" + wrong + ";}");
        }
    }

    /** "more than 16 messages, 8 enums, 60 fields, 40 values, 16 oneofs" */
    private static void limitsOfASchema() {
        Marked.good(times(16, "message @{}"));
        Marked.bad(7, times(17, "message @{}") + "~");
        Marked.good("message A{" + times(15, "message @{}") + "}");
        Marked.bad(7, "message A{" + times(16, "message @{}") + "}~");
        Marked.good(times(8, "enum @{z@=0;}"));
        Marked.bad(7, times(9, "enum @{z@=0;}") + "~");
        Marked.bad(7, "message A{" + times(8, "enum @{z@=0;}") + "}enum z{y=0;}~");
        Marked.good("message A{" + times(60, "A @=#;") + "}");
        Marked.bad(7, "message A{" + times(61, "A @=#;") + "}~");
        Marked.bad(7, "message A{" + times(59, "A @=#;") + "}message B{A b=1;A c=2;}~");
        Marked.good("enum A{z=0;" + times(39, "@=#;") + "}");
        Marked.bad(7, "enum A{z=0;" + times(40, "@=#;") + "}~");
        Marked.bad(7, "enum A{z=0;" + times(39, "@=#;") + "}enum B{y=0;}~");
        Marked.good("message A{" + times(16, "oneof @{A z@=#;}") + "}");
        Marked.bad(7, "message A{" + times(17, "oneof @{A z@=#;}") + "}~");
        Marked.bad(7, "message A{" + times(16, "oneof @{A z@=#;}") + "}message B{oneof o{A a=1;}}~");
    }

    /** "or 600 bytes of names (each that is declared)" */
    private static void namesHaveUpTo600Bytes() {
        String[] forms = {"message @{}", "message A{message @{}}", "enum @{Z=0;}", "enum E{@=0;}",
            "message A{int32 @=1;}", "message A{oneof @{A a=1;}}", "message A{oneof o{A @=1;}}"};
        int[] others = {0, 1, 1, 1, 1, 2, 2};
        for (int k = 0; k < forms.length; k++) {
            Marked.good(forms[k].replace("@", "n".repeat(600 - others[k])));
            Marked.bad(7, forms[k].replace("@", "n".repeat(601 - others[k])) + "~");
        }
        // Where a name is used it does not count.
        String name = "n".repeat(220);
        Marked.good("message " + name + "{" + name + " " + "m".repeat(220) + "=1;}");
    }

    /** "with a point in front from the top" */
    private static void lookupFromTheTop() {
        Desk d = new Desk().schema("message A{.B a=1;B b=2;.A.B c=3;. A . B d=4;message B{.B a=1;.A.B b=2;}}"
                + "message B{}");
        int[] due = {2, 1, 1, 1};
        for (int k = 0; k < due.length; k++) {
            Expect.same("field " + k, due[k], d.desk.field(0, 0, k, 2));
        }
        Expect.same(".B in A.B", 2, d.desk.field(0, 1, 0, 2));
        Expect.same(".A.B in A.B", 1, d.desk.field(0, 1, 1, 2));
        Marked.bad(5, "message A{~.B a=1;message B{}}");
        Marked.bad(5, "message A{message B{message C{}~.B.C a=1;}}");
        Marked.bad(5, "message A{~.a a=1;}");
    }

    /** "otherwise its first part in the message, then in the one around it, and so on, at last at the top" */
    private static void lookupFromTheMessageOutward() {
        String inner = "message A{message B{message C{T t=1;@}#}$}%";
        String[] marks = {"@", "#", "$", "%"};
        String[] found = {"A.B.C.T", "A.B.T", "A.T", "T"};
        for (int from = 0; from < 4; from++) {
            String text = inner;
            for (int k = 0; k < 4; k++) {
                text = text.replace(marks[k], k >= from ? k == 3 ? "enum T{Z=0;}" : "message T{}" : "");
            }
            Desk d = new Desk().schema(text);
            int message = d.text("A.B.C").desk.find(0);
            int type = d.desk.field(0, message, 0, 1);
            int due = d.text(found[from]).desk.find(0);
            Expect.same("type of " + found[from], from == 3 ? 14 : 13, type);
            Expect.same("it is " + found[from], due, d.desk.field(0, message, 0, 2)
                    + (type == 14 ? d.desk.many(0, 0) : 0));
        }
        Marked.bad(5, "message A{message B{message C{~T t=1;}message D{message T{}}}}");
        // A message is found in the one around it, not in itself.
        Marked.bad(5, "message A{~A.A a=1;}");
        // Fields, oneofs and values are no types, and do not hide any.
        Desk d = new Desk().schema("message T{}message A{T T=1;message B{enum E{T=0;}T t=1;}"
                + "message C{oneof T{T a=1;}}}");
        Expect.same("behind a field", 0, d.desk.field(0, 1, 0, 2));
        Expect.same("behind a value", 0, d.desk.field(0, 2, 0, 2));
        Expect.same("behind a oneof", 0, d.desk.field(0, 3, 0, 2));
    }

    /** "where there is a message or enum of that name, the rest is looked up in that, and must be there" */
    private static void theRestMustBeThere() {
        Marked.bad(5, "message A{~B.C a=1;message B{}}message B{message C{}}");
        Marked.bad(5, "message A{~B.C a=1;enum B{Z=0;}}message B{message C{}}");
        Marked.good("message A{.B.C a=1;message B{}}message B{message C{}}");
        Marked.bad(5, "message A{~B.Z a=1;enum B{Z=0;}}");
        Marked.bad(5, "message A{~A.a a=1;}");
        Marked.bad(5, "message A{~A.B.B a=1;message B{}}");
        Marked.bad(5, "message A{~A.B.A a=1;message B{}}");
        Marked.good("message A{A.B.C a=1;message B{enum C{Z=0;}}}");
        Marked.bad(5, "message A{~A.C a=1;message B{message C{}}}");
        // What follows a part that is not there is not looked up elsewhere.
        Marked.bad(5, "message A{~X.A a=1;}");
        Marked.bad(5, "message A{~.X.A a=1;}");
        Marked.bad(5, "message A{~A.X.A a=1;}");
        Marked.bad(5, "message A{~A.X.B a=1;message B{}}");
        Marked.bad(5, "message A{~B.X.B a=1;message B{}}message B{}");
    }

    /** "A schema with an error is empty then." */
    private static void aSchemaWithAnErrorIsEmpty() {
        String[] texts = {";", "map", "message A{}message A{}", "message A{int32 a=0;}", "message A{B b=1;}",
            "enum A{B=1;}", times(17, "message @{}")};
        for (int k = 0; k < texts.length; k++) {
            Desk d = new Desk().schema(0, "message A{int32 a=1;}enum E{Z=0;}").schema(1, "message A{}");
            Expect.same("check", 0, d.desk.check(0, 0));
            Expect.same("error " + (k + 1), k + 1, d.text(Marked.SYNTAX + texts[k]).desk.compile(0));
            for (int what = 0; what < 3; what++) {
                Expect.same("none of " + what, 0, d.desk.many(0, what));
            }
            Expect.same("no message is found", -1, d.text("A").desk.find(0));
            Expect.same("no enum is found", -1, d.text("E").desk.find(0));
            Expect.argument("no field", () -> d.desk.field(0, 0, 0, 0));
            Expect.argument("nothing to decode", () -> d.desk.decode(0, 0, 1));
            Expect.argument("nothing to parse", () -> d.desk.parse(0, 0, 1));
            Expect.argument("nothing to check", () -> d.desk.check(0, 0));
            Expect.same("the other schema stays", 1, d.desk.many(1, 0));
            d.schema(0, "message A{int32 a=1;}");
            Expect.same("a right text", 1, d.desk.many(0, 0));
        }
    }

    /** "MESSAGES and ENUMS are numbered as they begin." */
    private static void messagesAreNumberedAsTheyBegin() {
        Desk d = new Desk().schema("enum E{E0=0;}message A{enum F{F0=0;}message B{message C{}enum G{G0=0;}}message D{}}"
                + "message H{}enum I{I0=0;}");
        String[] names = {"A", "A.B", "A.B.C", "A.D", "H", "E", "A.F", "A.B.G", "I"};
        for (int k = 0; k < names.length; k++) {
            Expect.same(names[k], k, d.text(names[k]).desk.find(0));
        }
    }

    /** "-1 of none such" */
    private static void fieldTellsMinusOneOfNoneSuch() {
        for (String type : TYPES) {
            Desk d = new Desk().schema("message A{" + type + " a=1;}");
            Expect.same("no message or enum", -1, d.desk.field(0, 0, 0, 2));
            Expect.same("not repeated", 0, d.desk.field(0, 0, 0, 3));
            Expect.same("no oneof", -1, d.desk.field(0, 0, 0, 4));
        }
        Desk d = new Desk().schema("message A{A a=1;E e=2;oneof o{A b=3;E f=4;}oneof p{A c=5;}}enum E{Z=0;}"
                + "message B{oneof q{B b=1;}}");
        Expect.same("a message", 0, d.desk.field(0, 0, 0, 2));
        Expect.same("an enum, numbered for itself", 0, d.desk.field(0, 0, 1, 2));
        Expect.same("no oneof", -1, d.desk.field(0, 0, 1, 4));
        Expect.same("the first oneof", 0, d.desk.field(0, 0, 2, 4));
        Expect.same("the same oneof", 0, d.desk.field(0, 0, 3, 4));
        Expect.same("the next oneof", 1, d.desk.field(0, 0, 4, 4));
        Expect.same("another message's oneof", 2, d.desk.field(0, 1, 0, 4));
    }

    /** "Of field k of a message (by rising number)", "no such schema, message, field or what" */
    private static void fieldsAreNumberedByRisingNumber() {
        Desk d = new Desk().schema("message A{int32 a=300;int32 b=536870911;oneof o{int32 c=1;int32 d=20000;}"
                + "int32 e=2;}");
        int[] numbers = {1, 2, 300, 20000, 536870911};
        for (int k = -2; k < 8; k++) {
            int at = k;
            String due = k >= 0 && k < 5 ? Integer.toString(numbers[k]) : "IllegalArgumentException";
            Expect.same("field " + k, due, Expect.answer(() -> d.desk.field(0, 0, at, 0)));
            Expect.same("of schema " + k, k == 0 ? "1" : "IllegalArgumentException",
                    Expect.answer(() -> d.desk.field(at, 0, 0, 0)));
            Expect.same("of message " + k, k == 0 ? "1" : "IllegalArgumentException",
                    Expect.answer(() -> d.desk.field(0, at, 0, 0)));
            boolean asked = k >= 0 && k <= 5;
            Expect.yes("what " + k, Expect.answer(() -> d.desk.field(0, 0, 0, at))
                    .equals("IllegalArgumentException") == !asked);
        }
    }

    /** "whose name, from the top on with points, the tape (used) is; -1 for none" */
    private static void findTakesTheWholeName() {
        Desk d = new Desk().schema("message Ab{message Cd{}enum Ef{Z=0;}int32 f=1;oneof o{int32 g=2;}}");
        String[] names = {"Ab", "Ab.Cd", "Ab.Ef"};
        for (int k = 0; k < names.length; k++) {
            String name = names[k];
            Expect.same(name, k, d.text(name).desk.find(0));
            for (String around : new String[] {".", " ", "x", "\0", "\n"}) {
                Expect.same("something in front", -1, d.text(around + name).desk.find(0));
                Expect.same("something behind", -1, d.text(name + around).desk.find(0));
            }
            Expect.same("a byte less behind", -1, d.text(name.substring(0, name.length() - 1)).desk.find(0));
            Expect.same("a byte less in front", -1, d.text(name.substring(1)).desk.find(0));
        }
        for (String none : new String[] {"", ".", "Cd", "Ef", "Z", "Ab.Z", "Ab.Ef.Z", "Ab.f", "Ab.o", "ab", "Ab.cd",
            "Ab..Cd", "Ab . Cd", "Ab/Cd", "Ab.Ab", "Ab.Cd.Cd"}) {
            Expect.same("none is " + none, -1, d.text(none).desk.find(0));
        }
        for (int schema = -2; schema < 5; schema++) {
            int asked = schema;
            Expect.same("find(" + schema + ")", schema == 0 ? "0" : schema == 1 ? "-1" : "IllegalArgumentException",
                    Expect.answer(() -> d.text("Ab").desk.find(asked)));
        }
    }
}
