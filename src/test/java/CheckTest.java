/** Promise 12 (check). */
public final class CheckTest {
    private static final String ENUM = " enum E { Z=0; Y=1; }";

    public static void main(String[] args) {
        types();
        repeated();
        numbers();
        messages();
        messagesOfThemselves();
        oneofs();
        theFirstReason();
        theWay();
        deep();
        wrongCalls();
        nothingElseChanges();
        Expect.end();
    }

    private static void check(String old, String fresh, int reason, String way) {
        Desk d = new Desk().schema(0, old).schema(1, fresh);
        Expect.same("check of " + old + " and " + fresh, reason, d.desk.check(0, 0));
        Expect.same("the way in " + old + " and " + fresh, way, d.outHex());
    }

    private static void types() {
        String[] types = {"int32", "int64", "uint32", "uint64", "sint32", "sint64", "fixed32", "fixed64", "sfixed32",
            "sfixed64", "bool", "string", "bytes", "A", "E"};
        String agree = " int32>int64 int32>E uint32>uint64 uint32>int64 sint32>sint64 bool>int32 bool>int64 "
                + "bool>uint32 bool>uint64 bool>E E>int32 E>int64 string>bytes ";
        for (String old : types) {
            for (String fresh : types) {
                boolean same = old.equals(fresh) || agree.contains(" " + old + ">" + fresh + " ");
                String one = "message A { " + old + " a=5; }" + ENUM;
                String other = "message A { " + fresh + " b=5; }" + ENUM;
                check(one, other, same ? 0 : 2, same ? "" : "05");
                check(one.replace(old + " a", "repeated " + old + " a"),
                        other.replace(fresh + " b", "repeated " + fresh + " b"), same ? 0 : 2, same ? "" : "05");
            }
        }
        check("message A { E a=1; }" + ENUM, "message A { F a=1; } enum F { N=0; M=7; }", 0, "");
    }

    private static void repeated() {
        check("message A { repeated int32 a=1; }", "message A { int32 a=1; }", 1, "01");
        check("message A { int32 a=1; }", "message A { repeated int32 a=1; }", 1, "01");
        check("message A { repeated int32 a=1; }", "message A { string a=1; }", 1, "01");
        check("message A { repeated int32 a=1; }", "message A { repeated int32 a=1 [packed=false]; }", 0, "");
        check("message A { repeated A a=1; }", "message A { A a=1; }", 1, "01");
    }

    private static void numbers() {
        check("message A {}", "message A { int32 a=1; }", 0, "");
        check("message A { int32 a=1; }", "message A {}", 0, "");
        check("message A { int32 a=1; }", "message A { string a=2; }", 0, "");
        check("message A { int32 a=1; string b=2; }", "message A { string b=1; string a=2; }", 2, "01");
        check("message A { int32 a=536870911; }", "message A { string b=536870911; }", 2, "ff ff ff ff 01");
        check("message A { int32 a=128; }", "message A { string b=128; }", 2, "80 01");
    }

    private static void messages() {
        String old = "message A { B b=3; string s=4; } message B { int32 x=1; C c=200; } message C { bool t=7; }";
        check(old, old, 0, "");
        check(old, "message Z { message Y { message X { bool q=7; } X x=200; } Y y=3; }", 0, "");
        check(old, old.replace("bool t", "string t"), 2, "03 c8 01 07");
        check(old, old.replace("bool t", "repeated bool t"), 1, "03 c8 01 07");
        check(old, old.replace("int32 x", "bool x"), 2, "03 01");
        check(old, old.replace("C c", "bytes c"), 2, "03 c8 01");
        check(old.replace("C c", "bytes c"), old, 2, "03 c8 01");
        check(old, old.replace("string s", "bool s"), 2, "04");
    }

    private static void messagesOfThemselves() {
        check("message A { A a=1; int32 b=2; }", "message A { A a=1; int64 b=2; }", 0, "");
        check("message A { A a=1; int32 b=2; }", "message A { A a=1; string b=2; }", 2, "02");
        check("message A { B b=1; } message B { A a=1; int32 c=2; }",
                "message A { B b=1; } message B { A a=1; bool c=2; }", 2, "01 02");
        // The old message asks for itself, the new one for another: each pair is looked at.
        check("message A { A a=1; int32 b=2; }", "message X { Y a=1; int32 b=2; } message Y { X a=1; bool b=2; }",
                2, "01 02");
        check("message A { A a=1; int32 b=2; }", "message X { Y a=1; int32 b=2; } message Y { X a=1; int64 b=2; }",
                0, "");
        check("message A { A a=1; int32 b=2; }", "message X { Y a=1; int32 b=2; } message Y { Z a=1; int32 b=2; } "
                + "message Z { X a=1; bytes b=2; }", 2, "01 01 02");
        check("message X { Y a=1; int32 b=2; } message Y { Z a=1; int32 b=2; } message Z { X a=1; bytes b=2; }",
                "message A { A a=1; int32 b=2; }", 2, "01 01 02");
        // Met twice on two ways.
        check("message A { B a=1; B b=2; } message B { int32 c=1; }",
                "message A { B a=1; C b=2; } message B { int32 c=1; } message C { bool c=1; }", 2, "02 01");
        check("message A { B a=1; B b=2; } message B { int32 c=1; }",
                "message A { B a=1; B b=2; } message B { int64 c=1; }", 0, "");
    }

    private static void oneofs() {
        String apart = "message A { int32 a=1; int32 b=2; int32 c=3; }";
        check(apart, "message A { oneof x { int32 a=1; } int32 b=2; oneof y { int32 c=3; } }", 0, "");
        check(apart, "message A { oneof x { int32 a=1; int32 b=2; } int32 c=3; }", 3, "02");
        check(apart, "message A { oneof x { int32 c=3; int32 b=2; } int32 a=1; }", 3, "03");
        check(apart, "message A { oneof x { int32 a=1; int32 c=3; } }", 3, "03");
        check(apart, "message A { oneof x { int32 a=1; int32 d=4; } }", 0, "");
        String one = "message A { oneof x { int32 a=1; int32 b=2; } int32 c=3; }";
        check(one, one, 0, "");
        check(one, apart, 0, "");
        check(one, "message A { oneof x { int32 a=1; } oneof y { int32 b=2; } }", 0, "");
        check(one, "message A { oneof x { int32 a=1; int32 b=2; int32 c=3; } }", 3, "03");
        check("message A { oneof x { int32 a=1; } oneof y { int32 b=2; } }", one, 3, "02");
        check("message A { oneof x { int32 a=1; int32 c=3; } oneof y { int32 b=2; } }",
                "message A { oneof x { int32 a=1; int32 b=2; int32 c=3; } }", 3, "02");
        check("message A { oneof x { int32 a=1; int32 c=3; } int32 b=2; }",
                "message A { oneof x { int32 a=1; int32 c=3; } oneof y { int32 b=2; } }", 0, "");
        check("message A { B b=9; } message B { int32 a=1; int32 b=2; }",
                "message A { B b=9; } message B { oneof x { int32 b=2; int32 a=1; } }", 3, "09 02");
    }

    private static void theFirstReason() {
        String fresh = "message A { oneof x { int32 a=1; string b=2; } B c=3; } message B { repeated bool d=1; }";
        check("message A { int32 a=1; string b=2; B c=3; } message B { bool d=1; }", fresh, 3, "02");
        check("message A { int32 a=1; int32 b=2; B c=3; } message B { bool d=1; }", fresh, 2, "02");
        check("message A { int32 a=1; repeated int32 b=2; B c=3; } message B { bool d=1; }", fresh, 1, "02");
        check("message A { string a=1; int32 b=2; B c=3; } message B { bool d=1; }", fresh, 2, "01");
        check("message A { B c=3; } message B { bool d=1; }", fresh, 1, "03 01");
        // A message that is a field's type comes before that field's oneof.
        check("message A { int32 a=1; B b=2; } message B { bool d=1; }",
                "message A { oneof x { int32 a=1; B b=2; } } message B { string d=1; }", 2, "02 01");
        check("message A { int32 a=1; B b=2; } message B { bool d=1; }",
                "message A { oneof x { int32 a=1; B b=2; } } message B { bool d=1; }", 3, "02");
        check("message A { int32 a=1; A b=2; string c=3; }",
                "message A { oneof x { int32 a=1; A b=2; } int32 c=3; }", 3, "02");
        check("message A { B a=1; B b=2; } message B { bool d=1; }",
                "message A { oneof x { B a=1; B b=2; } } message B { bool d=1; }", 3, "02");
    }

    private static void theWay() {
        Desk d = new Desk().schema(0, "message A { B b=16; } message B { C c=2048; } message C { int32 x=1; }")
                .schema(1, "message C { bool x=1; } message B { C c=2048; } message A { B b=16; }");
        Expect.same("A and A", 2, d.desk.check(0, 2));
        Expect.same("the way", "10 80 10 01", d.outHex());
        Expect.same("A and A again", 2, d.desk.check(0, 2));
        Expect.same("the same way", "10 80 10 01", d.outHex());
        Expect.same("out", 0x1080100100000000L, d.desk.out(0));
        Expect.same("B and B", 2, d.desk.check(1, 1));
        Expect.same("the way from there", "80 10 01", d.outHex());
        Expect.same("C and C", 2, d.desk.check(2, 0));
        Expect.same("the way from there", "01", d.outHex());
        Expect.same("C and B agree", 0, d.desk.check(2, 1));
        Expect.same("no way", "", d.outHex());
    }

    /** A ring of 13 messages against one of 14: all their 182 pairs come one behind the other. */
    private static void deep() {
        StringBuilder old = new StringBuilder();
        for (int k = 0; k < 13; k++) {
            old.append("message A" + k + "{A" + (k + 1) % 13 + " a=1;" + (k == 12 ? "int32 b=2;" : "") + "}");
        }
        StringBuilder fresh = new StringBuilder();
        for (int k = 0; k < 14; k++) {
            fresh.append("message A" + k + "{A" + (k + 1) % 14 + " a=1;" + (k == 13 ? "bool b=2;" : "") + "}");
        }
        Desk d = new Desk().schema(0, old.toString()).schema(1, fresh.toString());
        Expect.same("the rings meet where they do not agree", 2, d.desk.check(0, 0));
        Expect.same("behind 181 steps", "01 ".repeat(181) + "02", d.outHex());
        d.schema(1, fresh.toString().replace("bool", "int64"));
        Expect.same("the rings agree", 0, d.desk.check(0, 0));
    }

    private static void wrongCalls() {
        Desk d = new Desk().schema(0, "message A {} enum E { Z=0; }").schema(1, "message A {} message B {}");
        Expect.same("both are there", 0, d.desk.check(0, 1));
        int[][] calls = {{-1, 0}, {1, 0}, {0, -1}, {0, 2}, {Integer.MAX_VALUE, 0}, {Integer.MIN_VALUE, 0},
            {0, Integer.MAX_VALUE}, {0, Integer.MIN_VALUE}};
        for (int[] call : calls) {
            Expect.argument("none such", () -> d.desk.check(call[0], call[1]));
        }
        d.text("x").desk.compile(1);
        Expect.argument("an empty schema", () -> d.desk.check(0, 0));
    }

    private static void nothingElseChanges() {
        Desk d = new Desk().schema(0, "message A { int32 a=1; }").schema(1, "message A { bool a=1; }");
        Expect.same("the first pair", 2, d.desk.check(0, 0));
        Expect.same("the first pair again", 2, d.desk.check(0, 0));
        d.hex("08 05").decode(0, 1);
        d.text("A");
        Expect.same("check", 2, d.desk.check(0, 0));
        Expect.same("the tape stays", 0, d.desk.find(1));
        Expect.same("the value stays", "08 05", d.encoded());
    }
}
