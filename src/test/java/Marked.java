/** Texts of schemas in which a ~ is left out and tells where the error is due. */
final class Marked {
    static final String SYNTAX = "syntax=\"proto3\";";

    private Marked() {
    }

    /** Compiles a whole text; without a ~ no error's place is due. */
    static void whole(int error, String marked) {
        int place = marked.indexOf('~');
        Desk d = new Desk().text(marked.replace("~", ""));
        Expect.same("compile of " + marked, error, d.desk.compile(0));
        Expect.same("place in " + marked, place, d.desk.place());
        if (error != 0) {
            Expect.same("messages after an error", 0, d.desk.many(0, 0));
            Expect.same("enums after an error", 0, d.desk.many(0, 1));
            Expect.same("fields after an error", 0, d.desk.many(0, 2));
        }
    }

    /** Compiles what stands behind the syntax line. */
    static void bad(int error, String marked) {
        whole(error, SYNTAX + marked);
    }

    static void good(String rest) {
        whole(0, SYNTAX + rest);
    }

    /** Compiles a text that may have any bytes: the error, a blank and its place. */
    static String outcome(String rest) {
        Desk d = new Desk().text(SYNTAX + rest);
        int error = d.desk.compile(0);
        return error + " " + d.desk.place();
    }
}
