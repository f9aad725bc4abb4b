/** The document's sentences about checking that name an edge, a method each (the terms' part CHECKING; promise 12). */
public final class EdgeCheckTest {
    private static final String[] TYPES = {"int32", "int64", "uint32", "uint64", "sint32", "sint64", "fixed32",
        "fixed64", "sfixed32", "sfixed64", "bool", "string", "bytes", "M", "E"};
    private static final String MORE = "enum E{Z=0;}message M{}";

    public static void main(String[] args) {
        numbersThatBothHave();
        bothRepeatedOrNeither();
        typesThatAgree();
        anyEnumsAgree();
        enumsAreNoMessages();
        packedIsNotLookedAt();
        namesAreNotLookedAt();
        messagesThatAgree();
        messagesThatAskForThemselves();
        pairsOfMessagesAreLookedAt();
        twoOldFieldsInOneNewOneof();
        lookedAtByRisingOldNumber();
        aMessageAsSoonAsItComes();
        oneofsBehindTheType();
        repeatedBeforeTypes();
        theWayIsOfVarints();
        theWayLeadsBack();
        outIsEmptyWhenTheyAgree();
        theOldIsOfSchema0();
        thereAreNoneSuch();
        Expect.end();
    }

    private static void check(String old, String fresh, int reason, String way) {
        Desk d = new Desk().schema(0, old).schema(1, fresh);
        Expect.same("check of " + old + " and " + fresh, reason, d.desk.check(0, 0));
        Expect.same("the way in " + old + " and " + fresh, way, d.outHex());
    }

    /** "for each number that both have the fields agree" */
    private static void numbersThatBothHave() {
        check("message A{}", "message A{}", 0, "");
        check("message A{int32 a=1;}", "message A{}", 0, "");
        check("message A{}", "message A{int32 a=1;}", 0, "");
        check("message A{int32 a=1;}", "message A{string a=2;}", 0, "");
        check("message A{int32 a=2;}", "message A{string a=1;string b=2;string c=3;}", 2, "02");
        check("message A{int32 a=1;int32 b=2;int32 c=3;}", "message A{string a=2;}", 2, "02");
    }

    /** "both repeated, or neither" */
    private static void bothRepeatedOrNeither() {
        for (String type : TYPES) {
            String one = "message A{" + type + " a=1;}" + MORE;
            String row = "message A{repeated " + type + " a=1;}" + MORE;
            check(one, one, 0, "");
            check(row, row, 0, "");
            check(one, row, 1, "01");
            check(row, one, 1, "01");
        }
    }

    /** "types equal, or int32 to int64 or an enum; uint32 to uint64, int64; .." */
    private static void typesThatAgree() {
        String agree = " int32>int64 int32>E uint32>uint64 uint32>int64 sint32>sint64 bool>int32 bool>int64 "
                + "bool>uint32 bool>uint64 bool>E E>int32 E>int64 string>bytes ";
        for (String old : TYPES) {
            for (String fresh : TYPES) {
                boolean right = old.equals(fresh) || agree.contains(" " + old + ">" + fresh + " ");
                for (String form : new String[] {"message A{@ a=9;}", "message A{repeated @ a=9;}",
                        "message A{oneof o{@ a=9;}}"}) {
                    check(form.replace("@", old) + MORE, form.replace("@", fresh) + MORE, right ? 0 : 2,
                            right ? "" : "09");
                }
            }
        }
    }

    /** "an enum to .. any enum" */
    private static void anyEnumsAgree() {
        check("message A{E a=1;}enum E{Z=0;Y=1;}", "message A{F a=1;}enum F{X=0;W=7;}", 0, "");
        check("message A{E a=1;enum E{Z=0;}}", "message A{repeated E b=2;E a=1;}enum E{Z=0;Y=-1;}", 0, "");
    }

    /** Enums and messages have the same numbers, and enums' values numbers as fields have. */
    private static void enumsAreNoMessages() {
        String form = "message A{@ x=1;}message B{E e=1;A a=2;}enum E{Z=0;}";
        Desk d = new Desk().schema(0, form.replace("@", "int32")).schema(1, form.replace("@", "string"));
        Expect.same("A is looked at behind E", 2, d.desk.check(1, 1));
        Expect.same("the way", "02 01", d.outHex());
        String inside = "message M{}message A{E e=1;int32 a=2;enum E{Z=0;Y=1;X=2;}}";
        Desk nested = new Desk().schema(0, inside).schema(1, inside);
        Expect.same("enums in a message", 0, nested.desk.check(1, 1));
    }

    private static void packedIsNotLookedAt() {
        check("message A{repeated int32 a=1;}", "message A{repeated int32 a=1[packed=false];}", 0, "");
        check("message A{repeated int32 a=1[packed=false];}", "message A{repeated int64 a=1[packed=true];}", 0, "");
    }

    private static void namesAreNotLookedAt() {
        check("message A{B b=1;}message B{int32 x=1;}", "message Z{Y y=1;message Y{int32 w=1;}}", 0, "");
    }

    /** "messages that agree" */
    private static void messagesThatAgree() {
        String form = "message A{B b=3;}message B{C c=4;}message C{@ d=5;}";
        check(form.replace("@", "int32"), form.replace("@", "int64"), 0, "");
        check(form.replace("@", "int32"), form.replace("@", "bool"), 2, "03 04 05");
        check(form.replace("@", "int32"), form.replace("@", "repeated int32"), 1, "03 04 05");
        check("message A{B b=1;}message B{}", "message A{B b=1;}message B{int32 a=1;}", 0, "");
        for (String other : new String[] {"string", "bytes", "E", "int32"}) {
            check("message A{M a=1;}" + MORE, "message A{" + other + " a=1;}" + MORE, 2, "01");
            check("message A{" + other + " a=1;}" + MORE, "message A{M a=1;}" + MORE, 2, "01");
        }
    }

    /** "messages that ask for themselves are taken to agree there" */
    private static void messagesThatAskForThemselves() {
        check("message A{A a=1;}", "message A{A a=1;}", 0, "");
        check("message A{A a=1;int32 b=2;}", "message A{A a=1;string b=2;}", 2, "02");
        check("message A{int32 b=1;A a=2;}", "message A{string b=1;A a=2;}", 2, "01");
        check("message A{B b=1;}message B{A a=1;}", "message A{B b=1;}message B{A a=1;}", 0, "");
        check("message A{B b=1;int32 c=2;}message B{A a=1;}", "message A{B b=1;string c=2;}message B{A a=1;}", 2, "02");
        check("message A{repeated A a=1;oneof o{A b=2;}}", "message A{repeated A a=1;A b=2;}", 0, "");
    }

    /** One message may be asked for with several others: each pair is looked at, once. */
    private static void pairsOfMessagesAreLookedAt() {
        check("message A{A a=1;int32 b=2;}", "message X{Y a=1;int32 b=2;}message Y{X a=1;string b=2;}", 2, "01 02");
        check("message X{Y a=1;int32 b=2;}message Y{X a=1;string b=2;}", "message A{A a=1;int32 b=2;}", 2, "01 02");
        check("message A{B b=1;B c=2;}message B{int32 x=1;}",
                "message A{B b=1;C c=2;}message B{int32 x=1;}message C{bool x=1;}", 2, "02 01");
        check("message A{B b=1;C c=2;}message B{int32 x=1;}message C{bool x=1;}",
                "message A{B b=1;B c=2;}message B{int32 x=1;}", 0, "");
        check("message A{B b=1;B c=2;B d=3;}message B{A a=1;B b=2;}",
                "message A{B b=1;B c=2;A d=3;}message B{A a=1;B b=2;}", 0, "");
    }

    private static String oneofText(int[] oneofs) {
        StringBuilder text = new StringBuilder("message A{");
        for (int oneof = 0; oneof <= 2; oneof++) {
            StringBuilder fields = new StringBuilder();
            for (int k = 0; k < oneofs.length; k++) {
                fields.append(oneofs[k] == oneof ? "int32 f" + k + "=" + (k + 1) + ";" : "");
            }
            boolean none = oneof == 0 || fields.length() == 0;
            text.append(none ? fields : "oneof o" + oneof + "{" + fields + "}");
        }
        return text + "}";
    }

    private static int[] digits(int number) {
        return new int[] {number % 3, number / 3 % 3, number / 9 % 3, number / 27 % 3};
    }

    /** "no two old fields that are not in one oneof have numbers that are in one new oneof" */
    private static void twoOldFieldsInOneNewOneof() {
        for (int a = 0; a < 81; a++) {
            for (int b = 0; b < 81; b++) {
                int[] old = digits(a);
                int[] fresh = digits(b);
                int due = 0;
                for (int k = 3; k >= 1; k--) {
                    for (int j = 0; j < k; j++) {
                        boolean together = fresh[j] == fresh[k] && fresh[k] != 0;
                        boolean before = old[j] == old[k] && old[k] != 0;
                        due = together && !before ? k + 1 : due;
                    }
                }
                check(oneofText(old), oneofText(fresh), due == 0 ? 0 : 3, due == 0 ? "" : "0" + due);
            }
        }
        // A number that one of them has not does not matter.
        check("message A{int32 a=1;int32 b=2;}", "message A{oneof o{int32 b=2;}}", 0, "");
        check("message A{int32 a=1;int32 b=2;int32 c=3;}", "message A{oneof o{int32 b=2;int32 c=3;}}", 3, "03");
        check("message A{int32 a=1;}", "message A{oneof o{int32 a=1;int32 b=2;}}", 0, "");
        check("message A{int32 a=1;int32 c=3;}", "message A{oneof o{int32 a=1;int32 b=2;}int32 c=3;}", 0, "");
    }

    /** "Looked at by rising old number" */
    private static void lookedAtByRisingOldNumber() {
        check("message A{int32 a=9;int32 b=3;int32 c=5;}", "message A{string c=5;repeated int32 a=9;string b=3;}", 2,
                "03");
        check("message A{int32 a=9;int32 b=3;int32 c=5;}", "message A{string c=5;repeated int32 a=9;int32 b=3;}", 2,
                "05");
        check("message A{int32 a=9;int32 b=3;int32 c=5;}", "message A{int32 c=5;repeated int32 a=9;int32 b=3;}", 1,
                "09");
        check("message A{int32 a=2;int32 b=1;int32 c=3;}", "message A{oneof o{int32 a=2;int32 b=1;}string c=3;}", 3,
                "02");
    }

    /** "a message that is a field's type as soon as it comes" */
    private static void aMessageAsSoonAsItComes() {
        String old = "message A{B b=1;int32 c=2;}message B{int32 d=7;}";
        check(old, "message A{B b=1;string c=2;}message B{string d=7;}", 2, "01 07");
        check(old, "message A{B b=1;string c=2;}message B{int32 d=7;}", 2, "02");
        check("message A{int32 a=1;B b=2;}message B{int32 d=7;}", "message A{string a=1;B b=2;}message B{string d=7;}",
                2, "01");
        check("message A{B b=1;B c=2;}message B{int32 d=7;}",
                "message A{B b=1;string c=2;}message B{repeated int32 d=7;}", 1,
                "01 07");
    }

    /** "oneofs (of a field with those of lower numbers) behind that field's type" */
    private static void oneofsBehindTheType() {
        check("message A{int32 a=1;B b=2;}message B{int32 d=7;}",
                "message A{oneof o{int32 a=1;B b=2;}}message B{string d=7;}", 2, "02 07");
        check("message A{int32 a=1;B b=2;}message B{int32 d=7;}",
                "message A{oneof o{int32 a=1;B b=2;}}message B{int32 d=7;}", 3, "02");
        check("message A{int32 a=1;int32 b=2;}", "message A{oneof o{int32 a=1;string b=2;}}", 2, "02");
        check("message A{int32 a=1;repeated int32 b=2;}", "message A{oneof o{int32 a=1;int32 b=2;}}", 1, "02");
        check("message A{int32 a=1;int32 b=2;int32 c=3;}", "message A{oneof o{int32 a=1;int32 b=2;}string c=3;}", 3,
                "02");
        check("message A{int32 a=1;int32 b=2;int32 c=3;}", "message A{oneof o{int32 a=1;int32 c=3;}string b=2;}", 2,
                "02");
        check("message A{B b=1;}message B{int32 c=1;int32 d=2;}",
                "message A{B b=1;}message B{oneof o{int32 c=1;int32 d=2;}}", 3, "01 02");
        // The oneof of a field whose message asks for itself.
        check("message A{int32 a=1;A b=2;}", "message A{oneof o{int32 a=1;A b=2;}}", 3, "02");
    }

    private static void repeatedBeforeTypes() {
        check("message A{repeated int32 a=1;}", "message A{string a=1;}", 1, "01");
        check("message A{M a=1;}" + MORE, "message A{repeated string a=1;}", 1, "01");
    }

    /** "the numbers of the fields, each as a varint" */
    private static void theWayIsOfVarints() {
        String[][] numbers = {{"1", "01"}, {"127", "7f"}, {"128", "80 01"}, {"16383", "ff 7f"}, {"16384", "80 80 01"},
            {"2097151", "ff ff 7f"}, {"2097152", "80 80 80 01"}, {"268435455", "ff ff ff 7f"},
            {"268435456", "80 80 80 80 01"}, {"536870911", "ff ff ff ff 01"}};
        for (String[] number : numbers) {
            check("message A{int32 a=" + number[0] + ";}", "message A{string a=" + number[0] + ";}", 2, number[1]);
            String form = "message A{B b=300;}message B{@ a=" + number[0] + ";}";
            check(form.replace("@", "int32"), form.replace("@", "string"), 2, "ac 02 " + number[1]);
        }
    }

    /** A way that has been gone and led to nothing is not told. */
    private static void theWayLeadsBack() {
        String form = "message A{B b=1;C c=2;@ d=3;}message B{C c=4;}message C{int32 e=5;}";
        check(form.replace("@", "int32"), form.replace("@", "string"), 2, "03");
        String deep = "message A{B b=1;C c=2;}message B{int32 x=1;}message C{B b=3;D d=4;}message D{@ y=5;}";
        check(deep.replace("@", "int32"), deep.replace("@", "string"), 2, "02 04 05");
    }

    private static void outIsEmptyWhenTheyAgree() {
        Desk d = new Desk().schema(0, "message A{int32 a=1;}message B{}").schema(1, "message A{string a=1;}");
        Expect.same("they do not agree", 2, d.desk.check(0, 0));
        Expect.same("the way", "01", d.outHex());
        Expect.same("they agree", 0, d.desk.check(1, 0));
        Expect.same("no way", "", d.outHex());
        Expect.same("not again", 2, d.desk.check(0, 0));
        Expect.same("the way again", "01", d.outHex());
    }

    /** "one of schema 0 (old), one of schema 1 (new)" */
    private static void theOldIsOfSchema0() {
        check("message A{int32 a=1;}", "message A{int64 a=1;}", 0, "");
        check("message A{int64 a=1;}", "message A{int32 a=1;}", 2, "01");
        Desk d = new Desk().schema(0, "message A{}message B{int32 a=1;}").schema(1,
                "message A{}message B{}message C{string a=1;}");
        Expect.same("B and C", 2, d.desk.check(1, 2));
        Expect.same("B and B", 0, d.desk.check(1, 1));
        Expect.same("A and C", 0, d.desk.check(0, 2));
    }

    /** "IllegalArgumentException: there are none such." */
    private static void thereAreNoneSuch() {
        Desk d = new Desk().schema(0, "message A{}message B{}enum E{Z=0;}").schema(1,
                "message A{}enum E{Z=0;}enum F{Y=0;}");
        int[] numbers = {Integer.MIN_VALUE, -2, -1, 0, 1, 2, 3, Integer.MAX_VALUE};
        for (int old : numbers) {
            for (int fresh : numbers) {
                boolean right = (old == 0 || old == 1) && fresh == 0;
                Expect.same("check(" + old + ", " + fresh + ")", right ? "0" : "IllegalArgumentException",
                        Expect.answer(() -> d.desk.check(old, fresh)));
            }
        }
        Desk one = new Desk().schema(0, "message A{}");
        Expect.argument("an empty new schema", () -> one.desk.check(0, 0));
        Desk other = new Desk().schema(1, "message A{}");
        Expect.argument("an empty old schema", () -> other.desk.check(0, 0));
    }
}
