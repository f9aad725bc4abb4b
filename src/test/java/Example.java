/** The program that README.md shows; ReadmeTest sees to it that both are the same. */
public final class Example {
    public static void main(String[] args) {
        ProtoDesk desk = new ProtoDesk();

        feed(desk, "syntax = \"proto3\"; message Point { sint32 x = 1; string name = 2; repeated uint32 tags = 3; }");
        say("compile", desk.compile(0), desk.place());
        say("messages, enums, fields", desk.many(0, 0), desk.many(0, 1), desk.many(0, 2));
        feed(desk, "Point");
        int point = desk.find(0);
        say("number, type, packed", desk.field(0, point, 2, 0), desk.field(0, point, 2, 1), desk.field(0, point, 2, 3));

        desk.feed(0x0803_1202_6869_1805L, 8);
        say("decode", desk.decode(0, point, 20));
        System.out.print(given(desk, desk.print()));
        desk.turn();
        say("parse", desk.parse(0, point, 20));
        say("encode", desk.encode());
        System.out.printf("%016x %016x%n", desk.out(0), desk.out(8));

        feed(desk, "syntax = \"proto3\"; message Point { sint64 x = 1; bytes name = 2; uint32 tags = 3; }");
        say("compile", desk.compile(1), desk.place());
        say("check", desk.check(point, 0), desk.out(0) >>> 56);

        feed(desk, "syntax = \"proto3\"; message Point { Line x = 1; }");
        say("compile", desk.compile(0), desk.place());
        try {
            desk.encode();
        } catch (IllegalStateException e) {
            say("there is no value");
        }
    }

    private static void say(String what, long... answers) {
        StringBuilder line = new StringBuilder(what);
        for (long answer : answers) {
            line.append(' ').append(answer);
        }
        System.out.println(line);
    }

    private static void feed(ProtoDesk desk, String text) {
        for (int from = 0; from < text.length(); from += 8) {
            int n = Math.min(8, text.length() - from);
            long bytes = 0;
            for (int k = from; k < from + n; k++) {
                bytes = bytes << 8 | text.charAt(k);
            }
            desk.feed(bytes, n);
        }
    }

    private static String given(ProtoDesk desk, int length) {
        StringBuilder text = new StringBuilder();
        for (int k = 0; k < length; k++) {
            text.append((char) (desk.out(k) >>> 56));
        }
        return text.toString();
    }
}
