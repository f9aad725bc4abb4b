/** Promises 3 (compile), 4 (place), 5 (many), 6 (field) and 7 (find). */
public final class SchemaTest {
    public static void main(String[] args) {
        rightTexts();
        wrongWords();
        wrongMembers();
        wrongBeginnings();
        wrongNames();
        wrongNumbers();
        wrongTypes();
        wrongValues();
        wrongPacked();
        tooMany();
        theFirstError();
        compileAndItsState();
        compileAgain();
        place();
        many();
        field();
        fieldOrderAndScopes();
        wrongFieldCalls();
        find();
        Expect.end();
    }

    private static void whole(int error, String marked) {
        Marked.whole(error, marked);
    }

    private static void bad(int error, String marked) {
        Marked.bad(error, marked);
    }

    private static void good(String rest) {
        Marked.good(rest);
    }

    private static void rightTexts() {
        good("");
        whole(0, "\t\r\n syntax = \"proto3\" ;");
        whole(0, "//c\nsyntax/**/=/***/\"proto3\"/*/*/;//c");
        whole(0, "/* \" // */syntax=\"proto3\";// /*");
        good("message A{}");
        good("//\nmessage A{}//\n//");
        bad(1, "//\n~x");
        bad(1, "/**/~x");
        good("message A{;;;}enum B{C=0;}");
        good("message A { int32 a=1;int64 b=2;uint32 c=3;uint64 d=4;sint32 e=5;sint64 f=6;fixed32 g=7;fixed64 h=8;"
                + "sfixed32 i=9;sfixed64 j=10;bool k=11;string l=12;bytes m=13;}");
        good("message message { message message = 1; }".replace("message message = 1", ".message message = 1"));
        good("message int32 { .int32 int32 = 1; }");
        good("message A { repeated int32 repeated = 1; oneof oneof { int32 enum = 2; } }");
        good("message A { int32 import = 1; } enum option { B = 0; rpc2 = 1; }");
        good("message map { .map a = 1; repeated map b = 2; }");
        good("message A { int32 a = 0x1; int32 b = 0x1fFfFfFf; int32 c = 18999; int32 d = 20000; }");
        good("enum A { B = 0; C = -1; D = - 1; E = -/**/0x80000000; F = 2147483647; G = 0; }");
        good("enum A { B = -0; C = 0x0; }");
        good("message A { repeated bool a = 1 [packed=true]; repeated B b = 2 [ packed = false ] ; enum B{C=0;} }");
        good("message A { B . C . D d = 1; } message B { message C { enum D { X = 0; } } }");
        good("message A { . B . C d = 1; } message B { message C { } }");
        good("message a_1Z_ { int32 b__ = 1; }");
        good("message A { oneof x { A a = 1; string b = 2; } ; oneof y { .A c = 3; } }");
    }

    private static void wrongWords() {
        whole(1, "~");
        whole(1, "  \n~");
        whole(1, "~message A {}");
        whole(1, "~import \"x\";");
        whole(1, "~;syntax=\"proto3\";");
        whole(1, "~Syntax=\"proto3\";");
        whole(1, "syntax~:\"proto3\";");
        whole(1, "syntax~ ".replace("~ ", " ~"));
        whole(1, "syntax=~\"proto2\";");
        whole(1, "syntax=~\"proto3 \";");
        whole(1, "syntax=~'proto3';");
        whole(1, "syntax=~proto3;");
        whole(1, "syntax=~import;");
        whole(1, "syntax ~option");
        whole(1, "syntax=\"proto3\" ~map");
        whole(1, "syntax=~\"proto3;");
        whole(1, "syntax=~\"pro\nto3\";");
        whole(1, "syntax=~\"\\160roto3\";");
        whole(1, "syntax=\"proto3\"~");
        whole(1, "syntax=\"proto3\" /* ~".replace("~", "") + "~");
        whole(1, "syntax=\"proto3\";/*/~");
        whole(1, "syntax=\"proto3\";/* *~");
        whole(1, "syntax=\"proto3\";message A {/*}~");
        bad(1, "~;");
        bad(1, "~}");
        bad(1, "message A{}~;");
        bad(1, "~syntax=\"proto3\";");
        bad(1, "~_a");
        bad(1, "~/ /");
        bad(1, "~\200");
        bad(1, "~\0");
        bad(1, "~\f");
        bad(1, "~int32 a = 1;");
        bad(1, "~oneof a { int32 b = 1; }");
        bad(1, "~repeated int32 a = 1;");
        bad(1, "~A");
        bad(1, "~\"x\"");
        bad(1, "~12");
        bad(1, "message ~{}");
        bad(1, "message ~1 {}");
        bad(1, "message A~.B {}");
        bad(1, "message A ~;");
        bad(1, "message A {~");
        bad(1, "message A { message B { } ~");
        bad(1, "message ~_A {}");
        bad(1, "message A~\304 {}");
    }

    private static void wrongMembers() {
        bad(1, "message A { int32 ~= 1; }");
        bad(1, "message A { int32 a ~1; }");
        bad(1, "message A { int32 a = ~-1; }");
        bad(1, "message A { int32 a = ~b; }");
        bad(1, "message A { int32 a = ~01; }");
        bad(1, "message A { int32 a = ~00; }");
        bad(1, "message A { int32 a = ~1a; }");
        bad(1, "message A { int32 a = ~1_; }");
        bad(1, "message A { int32 a = ~0x; }");
        bad(1, "message A { int32 a = ~0X1; }");
        bad(1, "message A { int32 a = ~0xg; }");
        bad(1, "message A { int32 a = ~0x1g; }");
        bad(1, "message A { int32 a = 1~.0; }");
        bad(1, "message A { int32 a = 1~ }".replace("~ ", " ~"));
        bad(1, "message A { int32 a = 1 ~, int32 b = 2; }");
        bad(1, "message A { int32~.x a = 1; }");
        bad(1, "message A { B~:c = 1; }");
        bad(1, "message A { B.~1 c = 1; }");
        bad(1, "message A { B.~.C c = 1; }");
        bad(1, "message A { .~= 1; }");
        bad(1, "message A { message ~.A a = 1; }");
        bad(1, "message A { repeated ~message a = 1; }");
        bad(1, "message A { repeated ~enum a = 1; }");
        bad(1, "message A { repeated ~oneof a = 1; }");
        bad(1, "message A { repeated ~repeated a = 1; }");
        bad(1, "message A { ~1; }");
        bad(1, "message A { ~\"x\" }");
        bad(1, "message A { oneof ~{ int32 a = 1; } }");
        bad(1, "message A { oneof a { ~} }");
        bad(1, "message A { oneof a { ~; } }");
        bad(1, "message A { oneof a { int32 b = 1; ~; } }");
        bad(1, "message A { oneof a { ~repeated int32 b = 1; } }");
        bad(1, "message A { oneof a { ~message B {} } }");
        bad(1, "message A { oneof a { ~enum B { C = 0; } } }");
        bad(1, "message A { oneof a { ~oneof b { int32 c = 1; } } }");
        bad(1, "message A { oneof a { int32 b = 1; } ~");
        bad(1, "enum A { ~}");
        bad(1, "enum A { ~; }");
        bad(1, "enum A { B = 0; ~; }");
        bad(1, "enum A { B ~0; }");
        bad(1, "enum A { B = 0 ~}");
        bad(1, "enum A { B = ~C; }");
        bad(1, "enum A { B = -~-1; }");
        bad(1, "enum A { B = -~; }");
        bad(1, "enum A { B = ~+1; }");
        bad(1, "enum A { B = 0~[packed=true]; }");
        bad(1, "message A { repeated int32 a = 1 [~]; }");
        bad(1, "message A { repeated int32 a = 1 [~deprecated = true]; }");
        bad(1, "message A { repeated int32 a = 1 [packed~]; }");
        bad(1, "message A { repeated int32 a = 1 [packed=~1]; }");
        bad(1, "message A { repeated int32 a = 1 [packed=~True]; }");
        bad(1, "message A { repeated int32 a = 1 [packed=true~, packed=true]; }");
        bad(1, "message A { repeated int32 a = 1 [packed=true]~[packed=true]; }");
    }

    private static void wrongBeginnings() {
        String[] names = {"import", "package", "option", "service", "extend", "map", "optional", "required", "group",
            "extensions", "reserved", "rpc"};
        for (String name : names) {
            bad(2, "~" + name);
            bad(2, "message A{} /**/ ~" + name + " x;");
            bad(2, "message A { ~" + name + " a = 1; }");
            bad(2, "message A { ; message B { int32 a = 1; ~" + name + " } }");
            bad(2, "message A { oneof b { ~" + name + " a = 1; } }");
            bad(2, "enum A { ~" + name + " = 0; }");
            bad(2, "enum A { B = 0; ~" + name + " 1; }");
            good("message " + name + " { ." + name + " " + name + " = 1; }");
            good("message A { repeated " + name + " a = 1; oneof " + name + "2 { int32 b = 2; } } message " + name
                    + "{}");
            bad(5, "message A { ~" + name + "s a = 1; }");
            bad(1, "message A ~" + name + " {}");
        }
        bad(1, "~stream");
        bad(1, "message A { ~returns; }".replace("~returns;", "returns~;"));
    }

    private static void wrongNames() {
        bad(3, "message A {} message ~A {}");
        bad(3, "message A {} enum ~A { B = 0; }");
        bad(3, "enum A { ~A = 0; }");
        bad(3, "enum A { B = 0; ~B = 1; }");
        bad(3, "enum A { B = 0; } enum C { ~B = 0; }");
        bad(3, "enum A { B = 0; } message ~B {}");
        bad(3, "message B {} enum A { ~B = 0; }");
        bad(3, "message A { int32 a = 1; string ~a = 2; }");
        bad(3, "message A { int32 a = 1; oneof ~a { int32 b = 2; } }");
        bad(3, "message A { oneof a { int32 ~a = 2; } }");
        bad(3, "message A { oneof a { int32 b = 2; } oneof c { int32 ~b = 3; } }");
        bad(3, "message A { oneof a { int32 b = 2; } message ~b {} }");
        bad(3, "message A { message B {} int32 ~B = 1; }");
        bad(3, "message A { enum B { C = 0; } enum D { ~C = 0; } }");
        bad(3, "message A { enum B { C = 0; } int32 ~C = 1; }");
        good("message A { message A { message A {} } int32 a = 1; } enum B { C = 0; }");
        good("enum A { B = 0; } message C { enum A { B = 0; } }");
        good("message A { int32 a = 1; } message B { int32 a = 1; }");
        good("message A { int32 ab = 1; int32 a = 2; int32 abc = 3; int32 aB = 4; }");
    }

    private static void wrongNumbers() {
        bad(4, "message A { int32 a = ~0; }");
        bad(4, "message A { int32 a = ~0x0; }");
        bad(4, "message A { int32 a = ~536870912; }");
        bad(4, "message A { int32 a = ~0x20000000; }");
        bad(4, "message A { int32 a = ~4294967297; }");
        bad(4, "message A { int32 a = ~18446744073709551617; }");
        bad(4, "message A { int32 a = ~340282366920938463463374607431768211457; }");
        bad(4, "message A { int32 a = ~19000; }");
        bad(4, "message A { int32 a = ~19999; }");
        bad(4, "message A { int32 a = ~0x4A38; }");
        bad(4, "message A { int32 a = 1; string b = ~1; }");
        bad(4, "message A { int32 a = 16; message B { int32 a = 16; } oneof x { string b = ~0x10; } }");
        good("message A { int32 a = 536870911; int32 b = 1; message B { int32 a = 1; } }");
    }

    private static void wrongTypes() {
        bad(5, "message A { ~B b = 1; }");
        bad(5, "message A { ~.B b = 1; message B {} }");
        bad(5, "message A { ~. B b = 1; message B {} }");
        bad(5, "message A { repeated ~B b = 1; }");
        bad(5, "message A { ~a b = 1; int32 a = 2; }");
        bad(5, "message A { ~x b = 1; oneof x { int32 c = 2; } }");
        bad(5, "message A { ~C b = 1; enum B { C = 0; } }");
        bad(5, "message A { ~B.C b = 1; enum B { C = 0; } }");
        bad(5, "message A { ~B.C b = 1; message B {} } message B { message C {} }");
        bad(5, "message A { ~A.C b = 1; message A {} message C {} }");
        bad(5, "message A { ~A.A.B b = 1; message B {} }");
        bad(5, "message A { ~.A.A.B b = 1; message B {} }");
        bad(5, "message A { ~B b = 1; } message C { message B {} }");
        bad(5, "message A { ~.int32 b = 1; }");
        bad(5, "message A { ~Int32 b = 1; }");
        good("message A { .A.B b = 1; message B {} }");
        good("message A { A.B b = 1; message B { B c = 1; A d = 2; A.B e = 3; .A.B f = 4; } }");
        good("message A { oneof x { A.B b = 1; } enum B { C = 0; } }");
    }

    private static void wrongValues() {
        bad(6, "enum A { B = ~1; }");
        bad(6, "enum A { B = ~-1; C = 0; }");
        bad(6, "enum A { B = ~- 1; }");
        bad(6, "enum A { B = 0; C = ~2147483648; }");
        bad(6, "enum A { B = 0; C = ~-2147483649; }");
        bad(6, "enum A { B = 0; C = ~0x80000000; }");
        bad(6, "enum A { B = 0; C = ~99999999999999999999999999; }");
        bad(6, "enum A { B = 0; C = ~-99999999999999999999999999; }");
        bad(6, "enum A { B = ~18446744073709551616; }");
        bad(6, "enum A { B = 0; } message C { enum A { B = ~5; } }");
    }

    private static void wrongPacked() {
        bad(6, "message A { int32 a = 1 [~packed=true]; }");
        bad(6, "message A { int32 a = 1 [~packed=false]; }");
        bad(6, "message A { repeated string a = 1 [~packed=true]; }");
        bad(6, "message A { repeated string a = 1 [ ~packed=false]; }");
        bad(6, "message A { repeated bytes a = 1 [~packed=true]; }");
        bad(6, "message A { repeated A a = 1 [~packed=false]; }");
        bad(6, "message A { oneof x { int32 a = 1 [~packed=true]; } }");
        bad(4, "message A { int32 a = ~0 [packed=true]; }");
        good("message A { repeated sfixed64 a = 1 [packed=true]; repeated double b = 2; enum double { X = 0; } }");
    }

    private static String times(int many, String form) {
        StringBuilder text = new StringBuilder();
        for (int k = 0; k < many; k++) {
            // Two letters for each number, as digits and capitals.
            char high = (char) ('a' + k / 26);
            char low = (char) ('A' + k % 26);
            text.append(form.replace("@", "" + high + low).replace("#", Integer.toString(k)));
        }
        return text.toString();
    }

    private static void tooMany() {
        good(times(16, "message @{}"));
        bad(7, times(17, "message @{}") + "~");
        bad(7, times(17, "message @{}") + " //~");
        bad(7, "message A{" + times(16, "message @{}") + "}~");
        good(times(8, "enum @{v@=0;}"));
        bad(7, times(9, "enum @{v@=0;}") + "~");
        String fields = times(61, "Q @=#;").replace("Q aA=0;", "");
        good("message Q{" + fields + "}");
        bad(7, "message Q{" + fields + "Q a=61;}~");
        good("enum A{" + times(40, "@=#;") + "}");
        bad(7, "enum A{" + times(41, "@=#;") + "}~");
        String oneofs = times(17, "oneof @{Q q@=#;}").replace("oneof aA{Q qaA=0;}", "");
        good("message Q{" + oneofs + "}");
        bad(7, "message Q{" + oneofs + "oneof z{Q y=17;}}~");
        String head = "message ";
        good(head + "a".repeat(600) + "{}");
        bad(7, head + "a".repeat(601) + "{}~");
        good("message A { oneof B { int32 C = 1; } enum D { E = 0; } } message " + "b".repeat(595) + "{}");
        bad(7, "message A { oneof B { int32 C = 1; } enum D { E = 0; } } message " + "b".repeat(596) + "{}~");
        bad(3, times(17, "message @{}") + "message ~aA{}");
        bad(6, "enum A{" + times(41, "@=#;") + "} enum B{C=~1;}");
    }

    private static void theFirstError() {
        bad(1, "message A {} message A {} ~;");
        bad(2, "message A { B b = 0; } ~option");
        bad(3, "message A { int32 a = 1; int32 ~a = 1; }");
        bad(4, "message A { int32 a = 1; int32 b = ~1; int32 a = 2; }");
        bad(5, "message A { int32 a = 1; ~B a = 1; }");
        bad(3, "message A { int32 a = 1; A ~a = 0 [packed=true]; }");
        bad(6, "message A { int32 a = 1 [~packed=true]; B b = 1; }");
        bad(3, "enum A { B = 0; ~B = 99999999999; }");
        bad(6, "enum A { B = ~7; B = 0; }");
        bad(5, "message A { message B { ~X x = 0; } int32 a = 0; } message A {}");
        bad(4, "message A { message B { A x = ~0; } int32 a = 0; } message A {}");
        bad(4, "message A { C c = 1; int32 a = ~0; } message C {} message C {}");
    }

    private static void compileAndItsState() {
        Desk d = new Desk().schema("message A { int32 a = 1; }").schema(1, "message B {} message C {}");
        d.hex("08 05").decode(0, 1);
        Expect.same("a value", "08 05", d.encoded());
        d.text("left");
        for (int schema : new int[] {-1, 2, Integer.MIN_VALUE, Integer.MAX_VALUE}) {
            Expect.argument("compile(" + schema + ")", () -> d.desk.compile(schema));
        }
        Expect.same("the tape stays", 5, d.desk.feed('x', 1));
        Expect.same("the value stays", "08 05", d.encoded());
        Expect.same("compile of another text", 1, d.desk.compile(1));
        Expect.same("the tape was used", 1, d.desk.feed('x', 1));
        d.desk.find(0);
        Expect.state("the value is none, though of the other schema", d.desk::encode);
        Expect.same("the schema is empty", 0, d.desk.many(1, 0));
        Expect.same("the other one stays", 1, d.desk.many(0, 0));
        d.hex("08 05").decode(0, 1);
        Expect.same("a value again", "08 05", d.encoded());
        d.schema(1, "enum E { F = 0; }");
        Expect.state("none after a right text too", d.desk::encode);
        Expect.same("no messages", 0, d.desk.many(1, 0));
        Expect.same("an enum", 1, d.desk.many(1, 1));
        d.schema(0, "");
        Expect.same("nothing at all", 0, d.desk.many(0, 0));
    }

    /** Nothing of an earlier text is left, whatever it was. */
    private static void compileAgain() {
        String[] before = {"syntax=\"proto3\";/*", "syntax=\"proto3\";message A{message B{",
            "syntax=\"proto3\";message A{oneof b{int32 c=1;", "syntax=\"proto3\";enum A{B=0;",
            "syntax=\"proto3\";message A{A a=1;A b=2;repeated A c=3;oneof d{A e=4;}}",
            "syntax=\"proto3\";message " + "a".repeat(590) + "{}",
            "syntax=\"proto3\";message A{repeated int32 a=1[packed=false];repeated int32 b=2[packed=false];int32 c=3;}",
            "syntax=\"proto3\";message A{int32 a=1[packed=true];int32 b=2[packed=true];}"};
        for (String text : before) {
            Desk d = new Desk().text(text);
            d.desk.compile(0);
            d.schema("message A { int32 a = 2; repeated int32 b = 1; enum E { F = 0; G = 1; H = 1; } E e = 3; }");
            Expect.same("a row", "1 0 -1 2 -1 1", about(d, 0, 0));
            Expect.same("a number", "2 0 -1 0 -1 1", about(d, 0, 1));
            Expect.same("an enum", "3 14 0 0 -1 1", about(d, 0, 2));
            Expect.same("fields", 3, d.desk.many(0, 2));
            d.text("e: H").parse(0, 1);
            Expect.same("the enum's values", "e: G\n", d.printed());
            d.text(text);
            d.desk.compile(0);
            d.schema("enum E { F = 0; G = 1; H = 1; } message A { int32 x = 1; E e = 3; repeated E r = 4; }");
            Expect.same("a number", "1 0 -1 0 -1 1", about(d, 0, 0));
            d.text("e: G r: H r: 2").parse(0, 1);
            Expect.same("the enum's values", "e: G\nr: G\nr: 2\n", d.printed());
        }
    }

    private static void place() {
        Desk d = new Desk();
        d.text(Marked.SYNTAX + " message");
        d.desk.compile(0);
        Expect.same("the text's length", 24, d.desk.place());
        Expect.argument("no such schema", () -> d.desk.compile(3));
        Expect.same("the latest error's place stays", 24, d.desk.place());
        d.text("   x");
        d.desk.compile(1);
        Expect.same("the latest error counts", 3, d.desk.place());
        d.schema(0, "");
        Expect.same("none after a right text", -1, d.desk.place());
        Expect.same("place again", -1, d.desk.place());
    }

    private static void many() {
        Desk d = new Desk().schema("message A { int32 a = 1; oneof x { A b = 2; A c = 3; } enum E { F = 0; G = 1; } "
                + "message B { int32 a = 1; } } enum H { I = 0; } enum J { K = 0; }");
        Expect.same("messages", 2, d.desk.many(0, 0));
        Expect.same("enums", 3, d.desk.many(0, 1));
        Expect.same("fields", 4, d.desk.many(0, 2));
        Expect.same("those of the other schema", 0, d.desk.many(1, 2));
        for (int wrong : new int[] {-1, 3, Integer.MIN_VALUE, Integer.MAX_VALUE}) {
            Expect.argument("many(0, " + wrong + ")", () -> d.desk.many(0, wrong));
        }
        for (int wrong : new int[] {-1, 2, Integer.MIN_VALUE, Integer.MAX_VALUE}) {
            Expect.argument("many(" + wrong + ", 0)", () -> d.desk.many(wrong, 0));
        }
    }

    private static String about(Desk d, int message, int k) {
        StringBuilder text = new StringBuilder();
        for (int what = 0; what < 6; what++) {
            int asked = what;
            text.append(what == 0 ? "" : " ").append(Expect.answer(() -> d.desk.field(0, message, k, asked)));
        }
        return text.toString();
    }

    private static void field() {
        Desk d = new Desk().schema("message A { repeated int32 r = 7; repeated int32 unpackd = 6 [packed=false];"
                + "repeated string s = 5; oneof x { bool y = 4; B zz = 3; } oneof w { .A.C v = 2; } bytes b = 0x20; "
                + "repeated C cc = 33 [packed=true]; repeated B bs = 34; message B { oneof q { C k = 1; } } "
                + "enum C { D = 0; } } enum Z { Y = 0; }");
        Desk hex = new Desk().schema("message A { int32 a = 0xaf; int32 b = 0xAF0; int32 c = 0x9; }");
        Expect.same("0x9", 9, hex.desk.field(0, 0, 0, 0));
        Expect.same("0xaf", 175, hex.desk.field(0, 0, 1, 0));
        Expect.same("0xAF0", 2800, hex.desk.field(0, 0, 2, 0));
        Expect.same("an enum in a oneof", "2 14 0 0 1 1", about(d, 0, 0));
        Expect.same("a message in a oneof", "3 13 1 0 0 2", about(d, 0, 1));
        Expect.same("a bool in a oneof", "4 10 -1 0 0 1", about(d, 0, 2));
        Expect.same("repeated strings", "5 11 -1 1 -1 1", about(d, 0, 3));
        Expect.same("numbers not packed", "6 0 -1 1 -1 7", about(d, 0, 4));
        Expect.same("numbers packed", "7 0 -1 2 -1 1", about(d, 0, 5));
        Expect.same("bytes", "32 12 -1 0 -1 1", about(d, 0, 6));
        Expect.same("enums packed", "33 14 0 2 -1 2", about(d, 0, 7));
        Expect.same("messages repeated", "34 13 1 1 -1 2", about(d, 0, 8));
        Expect.same("oneofs are numbered in the schema", "1 14 0 0 2 1", about(d, 1, 0));
        String types = "int32 int64 uint32 uint64 sint32 sint64 fixed32 fixed64 sfixed32 sfixed64 bool string bytes";
        String[] listed = types.split(" ");
        for (int k = 0; k < listed.length; k++) {
            d.schema("message A { " + listed[k] + " a = 1; repeated " + listed[k] + " b = 2; }");
            Expect.same(listed[k], "1 " + k + " -1 0 -1 1", about(d, 0, 0));
            Expect.same(listed[k], "2 " + k + " -1 " + (k < 11 ? 2 : 1) + " -1 1", about(d, 0, 1));
        }
    }

    private static void fieldOrderAndScopes() {
        Desk d = new Desk().schema("message A { B a = 1; A.B b = 2; .B c = 3; C d = 4; message B { B e = 1; C f = 2; "
                + "message C {} } enum C { D = 0; } } message B { C g = 1; A.C h = 2; } enum C { E = 0; }");
        Expect.same("the inner one", 1, d.desk.field(0, 0, 0, 2));
        Expect.same("the inner one by way of A", 1, d.desk.field(0, 0, 1, 2));
        Expect.same("the one at the top", 3, d.desk.field(0, 0, 2, 2));
        Expect.same("the enum in A", 0, d.desk.field(0, 0, 3, 2));
        Expect.same("it is an enum", 14, d.desk.field(0, 0, 3, 1));
        Expect.same("B in B is A.B", 1, d.desk.field(0, 1, 0, 2));
        Expect.same("C in A.B is a message", 13, d.desk.field(0, 1, 1, 1));
        Expect.same("number 2", 2, d.desk.field(0, 1, 1, 2));
        Expect.same("C at the top", 1, d.desk.field(0, 3, 0, 2));
        Expect.same("A.C", 0, d.desk.field(0, 3, 1, 2));
    }

    private static void wrongFieldCalls() {
        Desk d = new Desk().schema("message A { int32 a = 5; int32 b = 3; } message B {}");
        Expect.same("by rising number", 3, d.desk.field(0, 0, 0, 0));
        Expect.same("by rising number", 5, d.desk.field(0, 0, 1, 0));
        int[] far = {Integer.MIN_VALUE, Integer.MAX_VALUE, -1};
        for (int k : far) {
            Expect.argument("no such schema", () -> d.desk.field(k, 0, 0, 0));
            Expect.argument("no such message", () -> d.desk.field(0, k, 0, 0));
            Expect.argument("no such field", () -> d.desk.field(0, 0, k, 0));
            Expect.argument("no such what", () -> d.desk.field(0, 0, 0, k));
        }
        Expect.argument("schema 2", () -> d.desk.field(2, 0, 0, 0));
        Expect.argument("an empty schema", () -> d.desk.field(1, 0, 0, 0));
        Expect.argument("message 2 of two", () -> d.desk.field(0, 2, 0, 0));
        Expect.argument("field 2 of two", () -> d.desk.field(0, 0, 2, 0));
        Expect.argument("field 0 of none", () -> d.desk.field(0, 1, 0, 0));
        Expect.argument("what 6", () -> d.desk.field(0, 0, 0, 6));
    }

    private static int find(Desk d, String name) {
        return d.text(name).desk.find(0);
    }

    private static void find() {
        Desk d = new Desk().schema("enum Z { X = 0; } message A { message B { enum C { D = 0; } message A {} } enum C "
                + "{ D = 0; } int32 f = 1; oneof o { int32 g = 2; } } message B {}");
        Expect.same("A", 0, find(d, "A"));
        Expect.same("A.B", 1, find(d, "A.B"));
        Expect.same("A.B.A", 2, find(d, "A.B.A"));
        Expect.same("B", 3, find(d, "B"));
        Expect.same("Z", 4, find(d, "Z"));
        Expect.same("A.B.C", 5, find(d, "A.B.C"));
        Expect.same("A.C", 6, find(d, "A.C"));
        String[] none = {"", ".A", "A.", "A..B", " A", "A ", "A.B.C.D", "A.f", "A.o", "X", "C", "B.C", "a", "A.B.B",
            "AB", "A.BB", "AA.B", "A/B", "A.B.", "B.A", "\0", "A\0"};
        for (String name : none) {
            Expect.same("none is called " + name, -1, find(d, name));
        }
        find(d, "A");
        Expect.same("the tape was used", 1, d.desk.feed('B', 1));
        Expect.same("B again", 3, d.desk.find(0));
        d.text("A");
        Expect.same("not in the other schema", -1, d.desk.find(1));
        for (int wrong : new int[] {-1, 2, Integer.MIN_VALUE, Integer.MAX_VALUE}) {
            d.text("A");
            Expect.argument("find(" + wrong + ")", () -> d.desk.find(wrong));
        }
        Expect.same("a tape that find has used is empty", 1, d.desk.feed('A', 1));
    }
}
