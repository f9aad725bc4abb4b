/**
 * A desk for Protocol Buffers: compiles schemas (a part of proto3), decodes, encodes, prints and parses a value of a
 * message, and checks whether what one schema's messages say is understood by another's.
 *
 * <p>Everything that a call needs is made in the constructors and used again, so no call makes an object.
 */
public final class ProtoDesk {
    private static final int TAPE_ROOM = 700;
    private static final int OUT_ROOM = 4000;
    private static final int MOST_DEPTH = 20;
    private static final int MOST_VALUES = 200;
    private static final int MOST_VALUE_BYTES = 1000;
    private static final int MOST_MESSAGES = 16;
    private static final int MOST_ENUMS = 8;
    private static final int MOST_FIELDS = 60;
    private static final int MOST_ENUM_VALUES = 40;
    private static final int MOST_ONEOFS = 16;
    private static final int MOST_NAME_BYTES = 600;

    /** A type's number is its place here; that of a message and of an enum stand behind. */
    private static final String TYPES =
            "int32 int64 uint32 uint64 sint32 sint64 fixed32 fixed64 sfixed32 sfixed64 bool string bytes";
    private static final int INT32 = 0;
    private static final int INT64 = 1;
    private static final int UINT32 = 2;
    private static final int UINT64 = 3;
    private static final int SINT32 = 4;
    private static final int SINT64 = 5;
    private static final int FIXED32 = 6;
    private static final int FIXED64 = 7;
    private static final int SFIXED32 = 8;
    private static final int SFIXED64 = 9;
    private static final int BOOL = 10;
    private static final int STRING = 11;
    private static final int BYTES = 12;
    private static final int MESSAGE = 13;
    private static final int ENUM = 14;

    private static final int WRONG_WORD = 1;
    private static final int WRONG_BEGINNING = 2;
    private static final int WRONG_NAME = 3;
    private static final int WRONG_FIELD_NUMBER = 4;
    private static final int WRONG_TYPE = 5;
    private static final int WRONG_VALUE_OR_PACKED = 6;
    private static final int TOO_MANY = 7;

    private final Bytes tape;
    private final Bytes given;
    private final Compiler first;
    private final Compiler second;
    private final Tree value;
    private final Wire wire;
    private final TextForm textForm;
    private final Checker checker;
    private int errorPlace;

    public ProtoDesk() {
        tape = new Bytes(TAPE_ROOM);
        given = new Bytes(OUT_ROOM);
        first = new Compiler();
        second = new Compiler();
        value = new Tree();
        wire = new Wire(tape, value, given);
        textForm = new TextForm(tape, value, given);
        checker = new Checker(given);
        errorPlace = -1;
    }

    public int feed(long bytes, int n) throws IllegalArgumentException, IllegalStateException {
        if (n < 1 || n > 8) {
            throw new IllegalArgumentException("not 1 to 8 bytes");
        }
        if (tape.size() + n > TAPE_ROOM) {
            throw new IllegalStateException("the tape would be too long");
        }
        for (int k = n - 1; k >= 0; k--) {
            tape.add((int) (bytes >>> (8 * k)));
        }
        return tape.size();
    }

    public int compile(int schema) throws IllegalArgumentException {
        Compiler compiler = compilerOf(schema);
        if (compiler == null) {
            throw new IllegalArgumentException("no such schema");
        }
        value.drop();
        int fault = compiler.run(tape);
        tape.clear();
        errorPlace = compiler.faultAt();
        return fault;
    }

    public int place() {
        return errorPlace;
    }

    public int many(int schema, int what) throws IllegalArgumentException {
        Compiler compiler = compilerOf(schema);
        if (compiler == null || what < 0 || what > 2) {
            throw new IllegalArgumentException("no such schema, or no such question");
        }
        int kind = what == 0 ? Item.OF_MESSAGE : what == 1 ? Item.OF_ENUM : Item.OF_FIELD;
        return compiler.schema().count(kind);
    }

    public int field(int schema, int message, int k, int what) throws IllegalArgumentException {
        Item holder = messageOf(schema, message);
        Item found = holder == null ? null : holder.memberAt(k);
        if (found == null || what < 0 || what > 5) {
            throw new IllegalArgumentException("no such schema, message or field, or no such question");
        }
        switch (what) {
            case 0:
                return (int) found.number;
            case 1:
                return found.type;
            case 2:
                return found.target == null ? -1 : found.target.index;
            case 3:
                return found.packed ? 2 : found.repeated ? 1 : 0;
            case 4:
                return found.owner == null ? -1 : found.owner.index;
            default:
                return found.nameEnd - found.nameAt;
        }
    }

    public int find(int schema) throws IllegalArgumentException {
        Compiler compiler = compilerOf(schema);
        int found = compiler == null ? -1 : compiler.schema().numberOf(tape);
        tape.clear();
        if (compiler == null) {
            throw new IllegalArgumentException("no such schema");
        }
        return found;
    }

    public int decode(int schema, int message, int depth) throws IllegalArgumentException, IllegalStateException {
        return settle(opens(schema, message, depth) && wire.read(depth));
    }

    public int parse(int schema, int message, int depth) throws IllegalArgumentException, IllegalStateException {
        return settle(opens(schema, message, depth) && textForm.read(depth));
    }

    public int encode() throws IllegalStateException {
        given.clear();
        if (!value.isThere()) {
            throw new IllegalStateException("there is no value");
        }
        wire.write();
        return given.size();
    }

    public int print() throws IllegalStateException, UnsupportedOperationException {
        given.clear();
        if (!value.isThere()) {
            throw new IllegalStateException("there is no value");
        }
        textForm.write();
        if (given.isSpilt()) {
            given.clear();
            throw new UnsupportedOperationException("the text is too long");
        }
        return given.size();
    }

    public int check(int old, int fresh) throws IllegalArgumentException {
        given.clear();
        Item oldMessage = first.schema().message(old);
        Item freshMessage = second.schema().message(fresh);
        if (oldMessage == null || freshMessage == null) {
            throw new IllegalArgumentException("no such message");
        }
        return checker.compare(oldMessage, freshMessage);
    }

    public long out(int k) throws IndexOutOfBoundsException {
        if (k < 0 || k >= given.size()) {
            throw new IndexOutOfBoundsException("not a place of what was given");
        }
        long bytes = 0;
        for (int j = k; j < k + 8; j++) {
            bytes = bytes << 8 | Math.max(given.at(j), 0);
        }
        return bytes;
    }

    public int turn() throws IllegalStateException {
        if (given.size() > TAPE_ROOM) {
            throw new IllegalStateException("too long for the tape");
        }
        tape.clear();
        tape.addAll(given, 0, given.size());
        return tape.size();
    }

    private Compiler compilerOf(int schema) {
        return schema == 0 ? first : schema == 1 ? second : null;
    }

    private Item messageOf(int schema, int message) {
        Compiler compiler = compilerOf(schema);
        return compiler == null ? null : compiler.schema().message(message);
    }

    /** Makes the value an empty one of that message; false if there is none such, or the depth is none. */
    private boolean opens(int schema, int message, int depth) {
        Compiler compiler = compilerOf(schema);
        Item chosen = messageOf(schema, message);
        if (compiler == null || chosen == null || depth < 1 || depth > MOST_DEPTH) {
            return false;
        }
        value.begin(compiler.schema(), chosen);
        return true;
    }

    /** Ends a call that has read the tape into the value, rightly or not. */
    private int settle(boolean right) {
        tape.clear();
        int many = right ? value.count() : 0;
        boolean beyond = many > MOST_VALUES || value.isSpilt();
        if (!right || beyond) {
            value.drop();
        }
        if (!right) {
            throw new IllegalArgumentException("no such schema, message or depth, or the tape is wrong");
        }
        if (beyond) {
            throw new IllegalStateException("the value is beyond the limits");
        }
        return many;
    }

    private static boolean isBlank(int b) {
        return b == 32 || b == 9 || b == 10 || b == 13;
    }

    private static boolean isLetter(int b) {
        return b >= 'a' && b <= 'z' || b >= 'A' && b <= 'Z';
    }

    private static boolean isWordByte(int b) {
        return b >= 'a' && b <= 'z' || b >= 'A' && b <= 'Z' || b >= '0' && b <= '9' || b == '_';
    }

    private static boolean isNumeric(int type) {
        return type <= BOOL || type == ENUM;
    }

    /** A row of bytes with a fixed room; what comes beyond it is left out and remembered as spilt. */
    static final class Bytes {
        private final byte[] row;
        private int size;
        private boolean spilt;

        Bytes(int room) {
            row = new byte[Math.max(room, 0)];
        }

        int size() {
            return size;
        }

        boolean isSpilt() {
            return spilt;
        }

        void clear() {
            size = 0;
            spilt = false;
        }

        /** The byte at a place, 0 to 255; -1 where there is none. */
        int at(int k) {
            return k >= 0 && k < size && k < row.length ? row[k] & 255 : -1;
        }

        void add(int b) {
            if (size >= 0 && size < row.length) {
                row[size] = (byte) b;
                size++;
            } else {
                spilt = true;
            }
        }

        void addAll(Bytes other, int from, int to) {
            for (int k = from; k < to; k++) {
                add(other.at(k));
            }
        }

        void addText(String text) {
            for (int k = 0; k < text.length(); k++) {
                add(text.charAt(k));
            }
        }

        void addVarint(long bits) {
            long rest = bits;
            for (int k = 0; k < 9 && (rest >>> 7) != 0; k++) {
                add((int) (rest & 127) | 128);
                rest = rest >>> 7;
            }
            add((int) rest);
        }

        void addFixed(long bits, int many) {
            for (int k = 0; k < many; k++) {
                add((int) (bits >>> (8 * k)));
            }
        }

        /** Puts in front of all that stands from a place on how many bytes these are. */
        void insertLength(int from) {
            int length = size - from;
            int more = length < 128 ? 1 : 2;
            if (from < 0 || length < 0 || length >= 1 << 14 || size + more > row.length) {
                spilt = true;
                return;
            }
            System.arraycopy(row, from, row, from + more, length);
            size = from;
            addVarint(length);
            size = from + more + length;
        }

        /** Whether the bytes from a place on begin with those of another row between two places. */
        boolean isSame(int at, Bytes other, int from, int to) {
            if (at < 0 || from < 0 || to > other.size || to > other.row.length) {
                return false;
            }
            for (int k = from; k < to; k++) {
                int here = at + k - from;
                if (here >= size || here >= row.length || row[here] != other.row[k]) {
                    return false;
                }
            }
            return true;
        }

        /** Which word of a list, with one blank between them, the bytes between two places are; -1 for none. */
        int wordIn(String list, int from, int to) {
            int index = 0;
            int k = from;
            boolean same = true;
            for (int c = 0; c <= list.length(); c++) {
                int letter = c < list.length() ? list.charAt(c) : ' ';
                if (letter != ' ') {
                    same = same && k < to && at(k) == letter;
                    k++;
                } else if (same && k == to) {
                    return index;
                } else {
                    index++;
                    k = from;
                    same = true;
                }
            }
            return -1;
        }

        boolean isUtf8(int from, int to) {
            for (int k = from; k < to; k++) {
                int b = at(k);
                if (b >= 0 && b < 128) {
                    continue;
                }
                int more = b >= 0xC2 && b <= 0xDF ? 1 : b >= 0xE0 && b <= 0xEF ? 2 : b >= 0xF0 && b <= 0xF4 ? 3 : 0;
                // The second byte alone tells longer forms than needed, surrogates and what is above 10FFFF.
                int lowest = b == 0xE0 ? 0xA0 : b == 0xF0 ? 0x90 : 0x80;
                int highest = b == 0xED ? 0x9F : b == 0xF4 ? 0x8F : 0xBF;
                if (more == 0 || k + more >= to || at(k + 1) < lowest || at(k + 1) > highest) {
                    return false;
                }
                for (int j = 2; j <= more; j++) {
                    if ((at(k + j) & 0xC0) != 0x80) {
                        return false;
                    }
                }
                k += more;
            }
            return true;
        }
    }

    /** The words of a schema's text, in their order; the last one is the end or one that can't be. */
    static final class Words {
        static final int END = 0;
        static final int NAME = 1;
        static final int NUMBER = 2;
        static final int TEXT = 3;
        static final int SIGN = 4;
        static final int WRONG = 5;

        /** Codes of names and texts: a type's number, one of these, or FORBIDDEN or OTHER. */
        static final int MESSAGE_WORD = 20;
        static final int ENUM_WORD = 21;
        static final int ONEOF_WORD = 22;
        static final int REPEATED_WORD = 23;
        static final int SYNTAX_WORD = 24;
        static final int PACKED_WORD = 25;
        static final int TRUE_WORD = 26;
        static final int FALSE_WORD = 27;
        static final int PROTO3_WORD = 28;
        static final int FORBIDDEN = 40;
        static final int OTHER = -1;

        private static final String KEYWORDS = "message enum oneof repeated syntax packed true false proto3";
        private static final String FORBIDDEN_WORDS =
                "import package option service extend map optional required group extensions reserved rpc";
        /** Above every bound that a number of a schema has, and small enough to be multiplied. */
        private static final long HUGE = 1L << 40;

        private final Bytes text;
        private final int[] kinds;
        private final int[] starts;
        private final int[] ends;
        private final long[] values;
        private int count;
        private int length;
        private boolean unclosed;

        Words(Bytes text) {
            this.text = text;
            int room = TAPE_ROOM + 1;
            kinds = new int[room];
            starts = new int[room];
            ends = new int[room];
            values = new long[room];
        }

        int count() {
            return count;
        }

        int startOf(int k) {
            return k >= 0 && k < count && k < starts.length ? starts[k] : length;
        }

        int endOf(int k) {
            return k >= 0 && k < count && k < ends.length ? ends[k] : length;
        }

        int kindOf(int k) {
            return k >= 0 && k < count && k < kinds.length ? kinds[k] : END;
        }

        /** What a number is, which byte a sign is, or a name's or text's code. */
        long valueOf(int k) {
            return k >= 0 && k < count && k < values.length ? values[k] : OTHER;
        }

        boolean isSign(int k, int sign) {
            return k >= 0 && k < count && k < kinds.length && k < values.length
                    && kinds[k] == SIGN && values[k] == sign;
        }

        /** The code of a name; OTHER for what is none. */
        int codeOf(int k) {
            boolean name = k >= 0 && k < count && k < kinds.length && k < values.length && kinds[k] == NAME;
            return name ? (int) values[k] : OTHER;
        }

        void split() {
            count = 0;
            length = text.size();
            unclosed = false;
            int at = 0;
            for (int turn = 0; turn <= TAPE_ROOM; turn++) {
                int from = behindBlanks(at);
                at = addWord(from);
                if (at <= from) {
                    return;
                }
            }
        }

        /** Adds the word that begins at a place; its end, or the place itself if no word can follow. */
        private int addWord(int from) {
            int b = text.at(from);
            if (b < 0) {
                return push(unclosed ? WRONG : END, from, from, OTHER);
            }
            if (isLetter(b)) {
                int to = nameEnd(from);
                return push(NAME, from, to, codeBetween(from, to));
            }
            if (b >= '0' && b <= '9') {
                return addNumber(from);
            }
            if (b == '"') {
                return addText(from);
            }
            return push(SIGN, from, from + 1, b);
        }

        private int push(int kind, int from, int to, long value) {
            if (count < 0 || count >= kinds.length || count >= starts.length
                    || count >= ends.length || count >= values.length) {
                return from;
            }
            kinds[count] = kind;
            starts[count] = from;
            ends[count] = to;
            values[count] = value;
            count++;
            return kind == WRONG ? from : to;
        }

        private int addNumber(int from) {
            boolean hex = text.at(from) == '0' && text.at(from + 1) == 'x';
            int begin = hex ? from + 2 : from;
            int base = hex ? 16 : 10;
            long number = 0;
            int k = begin;
            while (k < length && digit(k, base) >= 0) {
                number = Math.min(number * base + digit(k, base), HUGE);
                k++;
            }
            boolean zeroInFront = !hex && text.at(from) == '0' && k > from + 1;
            boolean right = k > begin && !zeroInFront && !isWordByte(text.at(k));
            return push(right ? NUMBER : WRONG, from, k, number);
        }

        private int digit(int k, int base) {
            int b = text.at(k);
            if (b >= '0' && b <= '9') {
                return b - '0';
            }
            if (base == 16 && b >= 'a' && b <= 'f') {
                return b - 'a' + 10;
            }
            return base == 16 && b >= 'A' && b <= 'F' ? b - 'A' + 10 : -1;
        }

        private int addText(int from) {
            for (int k = from + 1; k < length; k++) {
                int b = text.at(k);
                if (b == '"') {
                    return push(TEXT, from, k + 1, codeBetween(from + 1, k));
                }
                if (b < 32 || b > 126 || b == '\\') {
                    break;
                }
            }
            return push(WRONG, from, from, OTHER);
        }

        private int nameEnd(int from) {
            int k = from;
            while (k < length && isWordByte(text.at(k))) {
                k++;
            }
            return k;
        }

        private int codeBetween(int from, int to) {
            int type = text.wordIn(TYPES, from, to);
            if (type >= 0) {
                return type;
            }
            int keyword = text.wordIn(KEYWORDS, from, to);
            if (keyword >= 0) {
                return MESSAGE_WORD + keyword;
            }
            return text.wordIn(FORBIDDEN_WORDS, from, to) >= 0 ? FORBIDDEN : OTHER;
        }

        private int behindBlanks(int from) {
            for (int k = from; k < length; k++) {
                int b = text.at(k);
                int next = b == '/' ? text.at(k + 1) : -1;
                if (next == '/') {
                    k = lineEnd(k + 2);
                } else if (next == '*') {
                    k = commentEnd(k + 2);
                } else if (!isBlank(b)) {
                    return k;
                }
            }
            return length;
        }

        /** The place of the byte 10 that ends a line. */
        private int lineEnd(int from) {
            int k = from;
            while (k < length && text.at(k) != 10) {
                k++;
            }
            return k;
        }

        /** The place of the last byte of a comment. */
        private int commentEnd(int from) {
            for (int k = from; k < length; k++) {
                if (text.at(k) == '*' && text.at(k + 1) == '/') {
                    return k + 1;
                }
            }
            unclosed = true;
            return length;
        }
    }

    /** A thing that a schema declares: a message, an enum, a field, an enum's value or a oneof. */
    static final class Item {
        static final int OF_MESSAGE = 0;
        static final int OF_ENUM = 1;
        static final int OF_FIELD = 2;
        static final int OF_VALUE = 3;
        static final int OF_ONEOF = 4;
        static final int KINDS = 5;

        private int kind;
        private int index;
        /** The message around it, null at the top; an enum's value stands where its enum does. */
        private Item scope;
        /** A field's oneof (or null), an enum value's enum. */
        private Item owner;
        private int nameAt;
        private int nameEnd;
        private long number;
        private int numberAt;
        private int type;
        private int typeWord;
        private Item target;
        private boolean repeated;
        private boolean packed;
        private boolean unpacked;
        private int packedAt;
        /** The first of a message's fields (by rising number) or of an enum's values (as they stand). */
        private Item first;
        private Item next;

        void begin(int kind, int index, Item scope, Item owner, int nameAt, int nameEnd) {
            this.kind = kind;
            this.index = index;
            this.scope = scope;
            this.owner = owner;
            this.nameAt = nameAt;
            this.nameEnd = nameEnd;
            number = 0;
            numberAt = 0;
            type = INT32;
            typeWord = -1;
            target = null;
            repeated = false;
            packed = false;
            unpacked = false;
            packedAt = -1;
            first = null;
            next = null;
        }

        boolean isType() {
            return kind == OF_MESSAGE || kind == OF_ENUM;
        }

        Item memberAt(int k) {
            Item member = k < 0 ? null : first;
            for (int j = 0; j < k && member != null; j++) {
                member = member.next;
            }
            return member;
        }

        /** The first member with that number. */
        Item memberNumbered(long wanted) {
            Item member = first;
            while (member != null && member.number != wanted) {
                member = member.next;
            }
            return member;
        }

        /** Takes a field in at its number's place. */
        void insert(Item field) {
            Item before = null;
            for (Item at = first; at != null && at.number < field.number; at = at.next) {
                before = at;
            }
            if (before == null) {
                field.next = first;
                first = field;
            } else {
                field.next = before.next;
                before.next = field;
            }
        }

        void append(Item member) {
            Item last = first;
            while (last != null && last.next != null) {
                last = last.next;
            }
            if (last == null) {
                first = member;
            } else {
                last.next = member;
            }
        }
    }

    /** What a schema declares, in the text's order. */
    static final class Schema {
        /** A text of 700 bytes has room for some 170 declarations: an enum's value needs four bytes. */
        private static final int ITEM_ROOM = 180;

        private final Bytes text;
        private final Item[] items;
        private final int[] counts;
        private int used;
        private int nameBytes;

        Schema() {
            text = new Bytes(TAPE_ROOM);
            items = new Item[ITEM_ROOM];
            for (int k = 0; k < ITEM_ROOM; k++) {
                items[k] = new Item();
            }
            counts = new int[Item.KINDS];
        }

        Bytes text() {
            return text;
        }

        void clear() {
            text.clear();
            used = 0;
            nameBytes = 0;
            for (int k = 0; k < counts.length; k++) {
                counts[k] = 0;
            }
        }

        int count(int kind) {
            return kind >= 0 && kind < counts.length ? counts[kind] : 0;
        }

        int nameBytes() {
            return nameBytes;
        }

        int used() {
            return used;
        }

        Item item(int k) {
            return k >= 0 && k < used && k < items.length ? items[k] : null;
        }

        /** Declares a thing; null if there is no room for it. */
        Item declare(int kind, Item scope, Item owner, int nameAt, int nameEnd) {
            if (used < 0 || used >= items.length || kind < 0 || kind >= counts.length) {
                return null;
            }
            Item item = items[used];
            if (item == null) {
                return null;
            }
            item.begin(kind, counts[kind], scope, owner, nameAt, nameEnd);
            used++;
            counts[kind]++;
            nameBytes += nameEnd - nameAt;
            return item;
        }

        Item message(int index) {
            for (int k = 0; k < used; k++) {
                Item item = item(k);
                if (item != null && item.kind == Item.OF_MESSAGE && item.index == index) {
                    return item;
                }
            }
            return null;
        }

        boolean isCalled(Item item, Bytes name, int from, int to) {
            return item.nameEnd - item.nameAt == to - from && text.isSame(item.nameAt, name, from, to);
        }

        /** The first message or enum right in a scope that is called so. */
        Item typeIn(Item scope, int from, int to) {
            for (int k = 0; k < used; k++) {
                Item item = item(k);
                if (item != null && item.scope == scope && item.isType() && isCalled(item, text, from, to)) {
                    return item;
                }
            }
            return null;
        }

        /** A message's field or an enum's value that is called so. */
        Item memberCalled(Item holder, Bytes name, int from, int to) {
            Item member = holder.first;
            while (member != null && (member.nameEnd - member.nameAt != to - from
                    || !text.isSame(member.nameAt, name, from, to))) {
                member = member.next;
            }
            return member;
        }

        /** The number of the message, or (behind all messages) the enum, of a full name; -1 for none. */
        int numberOf(Bytes name) {
            for (int k = 0; k < used; k++) {
                Item item = item(k);
                if (item != null && item.isType() && isFullName(item, name)) {
                    return item.kind == Item.OF_MESSAGE ? item.index : count(Item.OF_MESSAGE) + item.index;
                }
            }
            return -1;
        }

        /** Compares from the last part back to the first, as a thing knows only what is around it. */
        private boolean isFullName(Item item, Bytes name) {
            int end = name.size();
            for (Item part = item; part != null; part = part.scope) {
                int from = end - (part.nameEnd - part.nameAt);
                if (from < 0 || !name.isSame(from, text, part.nameAt, part.nameEnd)) {
                    return false;
                }
                if (part.scope == null) {
                    return from == 0;
                }
                end = from - 1;
                if (name.at(end) != '.') {
                    return false;
                }
            }
            return false;
        }
    }

    /**
     * Reads a schema's words and declares what they say: errors 1 and 2. What reads a part of it answers false when
     * a word can't stand there, and leaves the reading at that word.
     */
    static final class Reader {
        private final Schema schema;
        private final Words words;
        private Item message;
        private Item oneof;
        private Item enumeration;
        private boolean bare;
        private int at;
        private int fault;

        Reader(Schema schema, Words words) {
            this.schema = schema;
            this.words = words;
        }

        /** The error, or 0. */
        int read() {
            message = null;
            oneof = null;
            enumeration = null;
            at = 0;
            fault = WRONG_WORD;
            boolean right = readSyntax();
            // Each turn takes a word at least.
            for (int turn = 0; turn < words.count() && right && !isAtEnd(); turn++) {
                right = enumeration != null ? readValue() : oneof != null ? readChoice() : readMember();
            }
            return right && isAtEnd() ? 0 : fault;
        }

        /** The place of the word where the reading ended. */
        int endPlace() {
            return words.startOf(at);
        }

        private boolean isAtEnd() {
            return words.kindOf(at) == Words.END && message == null && oneof == null && enumeration == null;
        }

        private boolean takes(int sign) {
            if (!words.isSign(at, sign)) {
                return false;
            }
            at++;
            return true;
        }

        private boolean takesWord(int code) {
            if (words.codeOf(at) != code) {
                return false;
            }
            at++;
            return true;
        }

        private boolean readSyntax() {
            if (!takesWord(Words.SYNTAX_WORD) || !takes('=')) {
                return false;
            }
            if (words.kindOf(at) != Words.TEXT || words.valueOf(at) != Words.PROTO3_WORD) {
                return false;
            }
            at++;
            return takes(';');
        }

        /** Whether a name stands where something begins that is not part of these schemas. */
        private boolean isForbidden() {
            if (words.codeOf(at) != Words.FORBIDDEN) {
                return false;
            }
            fault = WRONG_BEGINNING;
            return true;
        }

        /** Reads what can stand at the top or in a message, or the beginning of it. */
        private boolean readMember() {
            if (isForbidden()) {
                return false;
            }
            if (takesWord(Words.MESSAGE_WORD)) {
                return begin(Item.OF_MESSAGE);
            }
            if (takesWord(Words.ENUM_WORD)) {
                return begin(Item.OF_ENUM);
            }
            if (message == null) {
                return false;
            }
            if (takes(';')) {
                return true;
            }
            if (takes('}')) {
                message = message.scope;
                return true;
            }
            return takesWord(Words.ONEOF_WORD) ? begin(Item.OF_ONEOF) : readField();
        }

        /** Reads the name and the { of a thing that has members. */
        private boolean begin(int kind) {
            Item begun = readName(kind);
            if (begun == null || !takes('{')) {
                return false;
            }
            if (kind == Item.OF_MESSAGE) {
                message = begun;
            } else if (kind == Item.OF_ENUM) {
                enumeration = begun;
            } else {
                oneof = begun;
            }
            bare = true;
            return true;
        }

        /** Reads a name and declares it; null if there is none. */
        private Item readName(int kind) {
            if (words.kindOf(at) != Words.NAME) {
                return null;
            }
            Item owner = kind == Item.OF_VALUE ? enumeration : kind == Item.OF_FIELD ? oneof : null;
            Item item = schema.declare(kind, message, owner, words.startOf(at), words.endOf(at));
            at++;
            return item;
        }

        private boolean readValue() {
            if (!bare && takes('}')) {
                enumeration = null;
                return true;
            }
            if (isForbidden()) {
                return false;
            }
            bare = false;
            Item item = readName(Item.OF_VALUE);
            return item != null && takes('=') && readNumber(item, true) && takes(';');
        }

        private boolean readChoice() {
            if (!bare && takes('}')) {
                oneof = null;
                return true;
            }
            if (isForbidden()) {
                return false;
            }
            bare = false;
            return readField();
        }

        private boolean readField() {
            boolean repeated = oneof == null && takesWord(Words.REPEATED_WORD);
            int typeWord = at;
            int code = words.codeOf(at);
            boolean plain = code >= INT32 && code <= BYTES;
            if (plain) {
                at++;
            } else if (!readTypeName()) {
                return false;
            }
            Item item = readName(Item.OF_FIELD);
            if (item == null) {
                return false;
            }
            item.repeated = repeated;
            // Which of the two a name tells is known when all is declared.
            item.type = plain ? code : MESSAGE;
            item.typeWord = typeWord;
            return takes('=') && readNumber(item, false) && readPacked(item) && takes(';');
        }

        private boolean readTypeName() {
            int code = words.codeOf(at);
            if (!takes('.') && code >= Words.MESSAGE_WORD && code <= Words.REPEATED_WORD) {
                return false;
            }
            for (int turn = 0; turn < words.count(); turn++) {
                if (words.kindOf(at) != Words.NAME) {
                    return false;
                }
                at++;
                if (!takes('.')) {
                    return true;
                }
            }
            return false;
        }

        private boolean readNumber(Item item, boolean mayBeNegative) {
            item.numberAt = words.startOf(at);
            boolean negative = mayBeNegative && takes('-');
            if (words.kindOf(at) != Words.NUMBER) {
                return false;
            }
            item.number = negative ? -words.valueOf(at) : words.valueOf(at);
            at++;
            return true;
        }

        private boolean readPacked(Item item) {
            if (!takes('[')) {
                return true;
            }
            item.packedAt = words.startOf(at);
            if (!takesWord(Words.PACKED_WORD) || !takes('=')) {
                return false;
            }
            item.unpacked = words.codeOf(at) == Words.FALSE_WORD;
            return (takesWord(Words.TRUE_WORD) || takesWord(Words.FALSE_WORD)) && takes(']');
        }
    }

    /** Makes a text a schema: has it read, then judges its names, types and numbers: errors 3 to 7. */
    static final class Compiler {
        private static final long HIGHEST_FIELD = 536870911;
        private static final long LOWEST_INT = -2147483648L;
        private static final long HIGHEST_INT = 2147483647L;

        private final Schema schema;
        private final Words words;
        private final Reader reader;
        private int fault;
        private int faultAt;

        Compiler() {
            schema = new Schema();
            words = new Words(schema.text());
            reader = new Reader(schema, words);
        }

        Schema schema() {
            return schema;
        }

        int faultAt() {
            return faultAt;
        }

        /** The error, or 0; the schema is empty after an error. */
        int run(Bytes source) {
            schema.clear();
            schema.text().addAll(source, 0, source.size());
            words.split();
            fault = reader.read();
            faultAt = fault == 0 ? -1 : reader.endPlace();
            for (int k = 0; k < schema.used() && fault == 0; k++) {
                judge(schema.item(k), k);
            }
            if (fault == 0 && isTooMuch()) {
                fail(TOO_MANY, source.size());
            }
            if (fault != 0) {
                schema.clear();
            }
            return fault;
        }

        private void fail(int error, int place) {
            fault = error;
            faultAt = place;
        }

        /** Judges one thing; its words are looked at in the order in which they stand. */
        private void judge(Item item, int k) {
            if (item == null) {
                return;
            }
            boolean field = item.kind == Item.OF_FIELD;
            if (field && item.type == MESSAGE && !findsType(item)) {
                fail(WRONG_TYPE, words.startOf(item.typeWord));
            } else if (isTaken(item, k)) {
                fail(WRONG_NAME, item.nameAt);
            } else if (field) {
                judgeField(item);
            } else if (item.kind == Item.OF_VALUE) {
                judgeValue(item);
            }
        }

        private boolean isTaken(Item item, int k) {
            for (int j = 0; j < k; j++) {
                Item other = schema.item(j);
                if (other != null && other.scope == item.scope
                        && schema.isCalled(other, schema.text(), item.nameAt, item.nameEnd)) {
                    return true;
                }
            }
            return false;
        }

        private void judgeField(Item field) {
            long number = field.number;
            boolean outside = number < 1 || number > HIGHEST_FIELD || number >= 19000 && number <= 19999;
            Item holder = field.scope;
            if (outside || holder == null || holder.memberNumbered(number) != null) {
                fail(WRONG_FIELD_NUMBER, field.numberAt);
                return;
            }
            holder.insert(field);
            boolean row = field.repeated && isNumeric(field.type);
            field.packed = row && !field.unpacked;
            if (field.packedAt >= 0 && !row) {
                fail(WRONG_VALUE_OR_PACKED, field.packedAt);
            }
        }

        private void judgeValue(Item item) {
            Item holder = item.owner;
            boolean outside = item.number < LOWEST_INT || item.number > HIGHEST_INT;
            if (outside || holder == null || holder.first == null && item.number != 0) {
                fail(WRONG_VALUE_OR_PACKED, item.numberAt);
                return;
            }
            holder.append(item);
        }

        private boolean findsType(Item field) {
            int k = field.typeWord;
            boolean fromTop = words.isSign(k, '.');
            if (fromTop) {
                k++;
            }
            Item found = fromTop ? schema.typeIn(null, words.startOf(k), words.endOf(k)) : typeAround(field.scope, k);
            while (found != null && words.isSign(k + 1, '.') && k < words.count()) {
                k += 2;
                found = schema.typeIn(found, words.startOf(k), words.endOf(k));
            }
            if (found == null) {
                return false;
            }
            field.target = found;
            field.type = found.kind == Item.OF_MESSAGE ? MESSAGE : ENUM;
            return true;
        }

        /** The message or enum with the name at a word, in the innermost scope that has one. */
        private Item typeAround(Item scope, int word) {
            int from = words.startOf(word);
            int to = words.endOf(word);
            for (Item around = scope; around != null; around = around.scope) {
                Item found = schema.typeIn(around, from, to);
                if (found != null) {
                    return found;
                }
            }
            return schema.typeIn(null, from, to);
        }

        private boolean isTooMuch() {
            return schema.count(Item.OF_MESSAGE) > MOST_MESSAGES || schema.count(Item.OF_ENUM) > MOST_ENUMS
                    || schema.count(Item.OF_FIELD) > MOST_FIELDS || schema.count(Item.OF_VALUE) > MOST_ENUM_VALUES
                    || schema.count(Item.OF_ONEOF) > MOST_ONEOFS || schema.nameBytes() > MOST_NAME_BYTES;
        }
    }

    /** One value of a field, or a run of unknown bytes (then without a field). */
    static final class Node {
        private Item field;
        private Node next;
        /** A message's values by rising number, rows in their order, unknown bytes behind all. */
        private Node first;
        /** Where the latest value was put, as the next one mostly goes right behind it. */
        private Node recent;
        private long number;
        private int from;
        private int to;

        void begin(Item field) {
            this.field = field;
            next = null;
            first = null;
            recent = null;
            number = 0;
            from = 0;
            to = 0;
        }

        /** A value that counts as none: zero, false or an empty text, neither in a row nor in a oneof. */
        boolean isNothing() {
            if (field == null || field.repeated || field.owner != null || field.type == MESSAGE) {
                return false;
            }
            return isNumeric(field.type) ? number == 0 : from == to;
        }
    }

    /** The value of a message, a tree of nodes. */
    static final class Tree {
        /** Every node comes from at least one byte of the tape. */
        private static final int NODE_ROOM = TAPE_ROOM;
        private static final long BEHIND_ALL = Long.MAX_VALUE;

        private final Node[] nodes;
        private final Node root;
        /** Texts and unknown bytes, those that a later value has replaced too: a tape's bytes never fill it. */
        private final Bytes texts;
        private int used;
        private Schema schema;
        private Item message;

        Tree() {
            nodes = new Node[NODE_ROOM];
            for (int k = 0; k < NODE_ROOM; k++) {
                nodes[k] = new Node();
            }
            root = new Node();
            texts = new Bytes(MOST_VALUE_BYTES);
        }

        boolean isThere() {
            return message != null && schema != null;
        }

        boolean isSpilt() {
            return texts.isSpilt();
        }

        void drop() {
            schema = null;
            message = null;
            texts.clear();
            used = 0;
            root.begin(null);
        }

        void begin(Schema schema, Item message) {
            drop();
            this.schema = schema;
            this.message = message;
        }

        int count() {
            return countIn(root, 1);
        }

        private int countIn(Node holder, int depth) {
            int many = 0;
            for (Node at = holder.first; at != null; at = at.next) {
                if (at.field != null && !at.isNothing()) {
                    many++;
                }
                if (at.first != null && depth <= MOST_DEPTH) {
                    many += countIn(at, depth + 1);
                }
            }
            return many;
        }

        /** The node for one more value of a field (null: for unknown bytes); null if there is no room. */
        Node put(Node holder, Item field) {
            if (field != null && field.owner != null) {
                dropRivals(holder, field);
            }
            Node before = lastUpTo(holder, field == null ? BEHIND_ALL : field.number);
            if (before != null && field != null && before.field == field && !field.repeated) {
                return before;
            }
            Node made = used >= 0 && used < nodes.length ? nodes[used] : null;
            if (made == null) {
                return null;
            }
            used++;
            made.begin(field);
            if (before == null) {
                made.next = holder.first;
                holder.first = made;
            } else {
                made.next = before.next;
                before.next = made;
            }
            holder.recent = made;
            return made;
        }

        /** The last value in a message that stands not behind a number; null if all do. */
        private Node lastUpTo(Node holder, long number) {
            Node last = holder.recent;
            if (last != null && (last.field == null ? BEHIND_ALL : last.field.number) > number) {
                last = null;
            }
            Node at = last == null ? holder.first : last.next;
            while (at != null && (at.field == null ? BEHIND_ALL : at.field.number) <= number) {
                last = at;
                at = at.next;
            }
            return last;
        }

        /** Takes away the other fields of a field's oneof. */
        private void dropRivals(Node holder, Item field) {
            Node before = null;
            for (Node at = holder.first; at != null; at = at.next) {
                boolean rival = at.field != null && at.field != field && at.field.owner == field.owner;
                if (!rival) {
                    before = at;
                } else if (before == null) {
                    holder.first = at.next;
                } else {
                    before.next = at.next;
                }
            }
            holder.recent = null;
        }

        /** Whether a message has a value of a field that may stand once, or of its oneof. */
        boolean isTaken(Node holder, Item field) {
            if (field.repeated) {
                return false;
            }
            for (Node at = holder.first; at != null; at = at.next) {
                boolean rival = at.field != null && field.owner != null && at.field.owner == field.owner;
                if (at.field == field || rival) {
                    return true;
                }
            }
            return false;
        }
    }

    /** The bytes of a value: decoding and encoding. */
    static final class Wire {
        private static final int VARINT = 0;
        private static final int EIGHT_BYTES = 1;
        private static final int LENGTH = 2;
        private static final int FOUR_BYTES = 5;

        private final Bytes tape;
        private final Tree value;
        private final Bytes given;
        private int at;
        private long number;
        private int limit;

        Wire(Bytes tape, Tree value, Bytes given) {
            this.tape = tape;
            this.value = value;
            this.given = given;
        }

        /** Decodes the tape into the value; false if it is wrong. */
        boolean read(int depth) {
            at = 0;
            limit = depth;
            return readMessage(value.root, value.message, tape.size(), 1);
        }

        private boolean readMessage(Node into, Item message, int end, int depth) {
            if (message == null || depth > limit) {
                return false;
            }
            // Each turn takes a byte at least.
            for (int turn = 0; turn < TAPE_ROOM && at < end; turn++) {
                int from = at;
                if (!readNumber(VARINT, end) || number >>> 32 != 0 || number < 8) {
                    return false;
                }
                int kind = (int) (number & 7);
                Item field = message.memberNumbered(number >>> 3);
                boolean right = kind == LENGTH
                        ? takeLength(into, field, from, end, depth) : takeNumber(into, field, kind, from, end);
                if (!right) {
                    return false;
                }
            }
            return at == end;
        }

        private boolean takeNumber(Node into, Item field, int kind, int from, int end) {
            if (!readNumber(kind, end)) {
                return false;
            }
            return field != null && kindOf(field.type) == kind ? putNumber(into, field) : keep(into, from);
        }

        private boolean takeLength(Node into, Item field, int from, int end, int depth) {
            if (!readNumber(VARINT, end) || number < 0 || number > end - at) {
                return false;
            }
            int stop = at + (int) number;
            boolean row = field != null && field.repeated && isNumeric(field.type);
            if (row) {
                return takeRow(into, field, stop);
            }
            if (field == null || isNumeric(field.type)) {
                at = stop;
                return keep(into, from);
            }
            if (field.type == STRING && !tape.isUtf8(at, stop)) {
                return false;
            }
            Node node = value.put(into, field);
            if (node == null) {
                return false;
            }
            if (field.type == MESSAGE) {
                return readMessage(node, field.target, stop, depth + 1);
            }
            return copy(node, at, stop);
        }

        private boolean takeRow(Node into, Item field, int stop) {
            for (int turn = 0; turn < TAPE_ROOM && at < stop; turn++) {
                if (!readNumber(kindOf(field.type), stop) || !putNumber(into, field)) {
                    return false;
                }
            }
            return at == stop;
        }

        private boolean putNumber(Node into, Item field) {
            Node node = value.put(into, field);
            if (node == null) {
                return false;
            }
            node.number = meaning(field.type, number);
            return true;
        }

        /** Keeps what stands on the tape from a place up to here as unknown bytes. */
        private boolean keep(Node into, int from) {
            Node node = value.put(into, null);
            return node != null && copy(node, from, at);
        }

        private boolean copy(Node node, int from, int stop) {
            node.from = value.texts.size();
            value.texts.addAll(tape, from, stop);
            node.to = value.texts.size();
            at = stop;
            return true;
        }

        /** Reads a varint, four or eight bytes; false if they are not all there, or it is another kind. */
        private boolean readNumber(int kind, int end) {
            int step = kind == VARINT ? 7 : 8;
            int most = kind == VARINT ? 10 : kind == EIGHT_BYTES ? 8 : kind == FOUR_BYTES ? 4 : 0;
            number = 0;
            for (int k = 0; k < most && at < end; k++) {
                long b = tape.at(at);
                at++;
                number |= (kind == VARINT ? b & 127 : b) << (step * k);
                if (kind == VARINT ? b < 128 : k == most - 1) {
                    return true;
                }
            }
            return false;
        }

        private static int kindOf(int type) {
            switch (type) {
                case FIXED64:
                case SFIXED64:
                    return EIGHT_BYTES;
                case FIXED32:
                case SFIXED32:
                    return FOUR_BYTES;
                case STRING:
                case BYTES:
                case MESSAGE:
                    return LENGTH;
                default:
                    return VARINT;
            }
        }

        /** The number that the bits which were read say: as a long, unsigned 64 bits as they are. */
        private static long meaning(int type, long bits) {
            switch (type) {
                case INT32:
                case SFIXED32:
                case ENUM:
                    return (int) bits;
                case UINT32:
                case FIXED32:
                    return bits & 0xFFFFFFFFL;
                case SINT32:
                    return (int) bits >>> 1 ^ -((int) bits & 1);
                case SINT64:
                    return bits >>> 1 ^ -(bits & 1);
                case BOOL:
                    return bits != 0 ? 1 : 0;
                default:
                    return bits;
            }
        }

        /** Encodes the value. */
        void write() {
            writeMessage(value.root, 1);
        }

        private void writeMessage(Node message, int depth) {
            Node node = message.first;
            while (node != null && depth <= MOST_DEPTH) {
                Node last = node;
                if (node.field == null) {
                    given.addAll(value.texts, node.from, node.to);
                } else if (node.field.packed) {
                    last = writeRow(node, node.field);
                } else if (!node.isNothing()) {
                    writeField(node, node.field, depth);
                }
                node = last.next;
            }
        }

        /** Writes a packed row; its last node. */
        private Node writeRow(Node begin, Item field) {
            given.addVarint(field.number << 3 | LENGTH);
            int from = given.size();
            Node last = begin;
            for (Node node = begin; node != null && node.field == field; node = node.next) {
                writeNumber(field.type, node.number);
                last = node;
            }
            given.insertLength(from);
            return last;
        }

        private void writeField(Node node, Item field, int depth) {
            int kind = kindOf(field.type);
            given.addVarint(field.number << 3 | kind);
            if (kind != LENGTH) {
                writeNumber(field.type, node.number);
                return;
            }
            int from = given.size();
            if (field.type == MESSAGE) {
                writeMessage(node, depth + 1);
            } else {
                given.addAll(value.texts, node.from, node.to);
            }
            given.insertLength(from);
        }

        private void writeNumber(int type, long number) {
            int kind = kindOf(type);
            if (kind == EIGHT_BYTES) {
                given.addFixed(number, 8);
            } else if (kind == FOUR_BYTES) {
                given.addFixed(number, 4);
            } else if (type == SINT32 || type == SINT64) {
                given.addVarint(number << 1 ^ number >> 63);
            } else {
                given.addVarint(number);
            }
        }
    }

    /** The text of a value: parsing and printing. */
    static final class TextForm {
        private static final String BOOLS = "false true";
        private static final String ESCAPES = "nrt\"\\'";
        private static final String ESCAPED = "\n\r\t\"\\'";
        /** A single quote is printed as it is, so the escape for it, the last one, is only read. */
        private static final int PRINTED_ESCAPES = 5;
        private static final long LAST_TENTH = 1844674407370955161L;
        private static final int DIGITS = 20;

        private final Bytes tape;
        private final Tree value;
        private final Bytes given;
        private final byte[] digits;
        private int at;
        private int limit;
        private long number;

        TextForm(Bytes tape, Tree value, Bytes given) {
            this.tape = tape;
            this.value = value;
            this.given = given;
            digits = new byte[DIGITS];
        }

        /** Parses the tape into the value; false if it is wrong. */
        boolean read(int depth) {
            at = 0;
            limit = depth;
            return readMessage(value.root, value.message, 1);
        }

        private boolean readMessage(Node into, Item message, int depth) {
            if (message == null || depth > limit) {
                return false;
            }
            // Each turn takes a byte at least.
            for (int turn = 0; turn <= TAPE_ROOM; turn++) {
                skipBlanks();
                int b = tape.at(at);
                if (b < 0) {
                    return depth == 1;
                }
                if (b == '}') {
                    at++;
                    return depth > 1;
                }
                if (!readField(into, message, depth)) {
                    return false;
                }
            }
            return false;
        }

        private void skipBlanks() {
            boolean comment = false;
            while (at < tape.size()) {
                int b = tape.at(at);
                if (!comment && !isBlank(b) && b != '#') {
                    return;
                }
                comment = b != 10 && (comment || b == '#');
                at++;
            }
        }

        /** Goes behind the word that stands here. */
        private void skipWord() {
            while (at < tape.size() && isWordByte(tape.at(at))) {
                at++;
            }
        }

        private boolean readField(Node into, Item message, int depth) {
            int from = at;
            skipWord();
            Item field = value.schema == null ? null : value.schema.memberCalled(message, tape, from, at);
            if (field == null || value.isTaken(into, field)) {
                return false;
            }
            skipBlanks();
            if (tape.at(at) != (field.type == MESSAGE ? '{' : ':')) {
                return false;
            }
            at++;
            Node node = value.put(into, field);
            if (node == null) {
                return false;
            }
            if (field.type == MESSAGE) {
                return readMessage(node, field.target, depth + 1);
            }
            skipBlanks();
            return readValue(node, field);
        }

        private boolean readValue(Node node, Item field) {
            if (!isNumeric(field.type)) {
                return readText(node, field.type);
            }
            boolean right;
            if (field.type == BOOL) {
                right = readBool();
            } else if (field.type == ENUM && isLetter(tape.at(at))) {
                right = readEnumName(field.target);
            } else {
                right = readNumber(field.type);
            }
            node.number = number;
            return right;
        }

        private boolean readBool() {
            int from = at;
            skipWord();
            number = tape.wordIn(BOOLS, from, at);
            return number >= 0;
        }

        private boolean readEnumName(Item enumeration) {
            int from = at;
            skipWord();
            if (enumeration == null || value.schema == null) {
                return false;
            }
            Item named = value.schema.memberCalled(enumeration, tape, from, at);
            if (named == null) {
                return false;
            }
            number = named.number;
            return true;
        }

        private boolean readNumber(int type) {
            boolean negative = tape.at(at) == '-';
            if (negative) {
                at++;
            }
            int from = at;
            long size = 0;
            while (at < tape.size() && tape.at(at) >= '0' && tape.at(at) <= '9') {
                int digit = tape.at(at) - '0';
                if (size < 0 || size > LAST_TENTH || size == LAST_TENTH && digit > 5) {
                    return false;
                }
                size = size * 10 + digit;
                at++;
            }
            if (at == from || isWordByte(tape.at(at)) || !isInRange(type, negative, size)) {
                return false;
            }
            number = negative ? -size : size;
            return true;
        }

        /** Whether a type has a number of that size, an unsigned one. */
        private static boolean isInRange(int type, boolean negative, long size) {
            boolean below63Bits = size >= 0;
            switch (type) {
                case UINT64:
                case FIXED64:
                    return !negative || size == 0;
                case UINT32:
                case FIXED32:
                    return below63Bits && size <= (negative ? 0 : 0xFFFFFFFFL);
                case INT64:
                case SINT64:
                case SFIXED64:
                    return below63Bits || negative && size == Long.MIN_VALUE;
                default:
                    return below63Bits && size <= (negative ? 0x80000000L : 0x7FFFFFFFL);
            }
        }

        private boolean readText(Node node, int type) {
            int quote = tape.at(at);
            if (quote != '"' && quote != '\'') {
                return false;
            }
            at++;
            node.from = value.texts.size();
            while (at < tape.size() && tape.at(at) != quote) {
                int b = tape.at(at);
                at++;
                int meant = b == '\\' ? readEscape() : b >= 32 && b <= 126 ? b : -1;
                if (meant < 0) {
                    return false;
                }
                value.texts.add(meant);
            }
            node.to = value.texts.size();
            boolean closed = at < tape.size();
            at++;
            return closed && (type != STRING || value.texts.isUtf8(node.from, node.to));
        }

        /** The byte that the escape says whose backslash has been read; -1 if it is none. */
        private int readEscape() {
            int b = tape.at(at);
            for (int k = 0; k < ESCAPES.length() && k < ESCAPED.length(); k++) {
                if (ESCAPES.charAt(k) == b) {
                    at++;
                    return ESCAPED.charAt(k);
                }
            }
            int meant = 0;
            for (int k = 0; k < 3; k++) {
                int digit = tape.at(at) - '0';
                if (digit < 0 || digit > 7) {
                    return -1;
                }
                meant = meant * 8 + digit;
                at++;
            }
            return meant <= 255 ? meant : -1;
        }

        /** Prints the value; beyond the room it spills. */
        void write() {
            if (value.schema != null) {
                writeMessage(value.root, value.schema.text(), 1);
            }
        }

        private void writeMessage(Node message, Bytes names, int depth) {
            for (Node node = message.first; node != null && depth <= MOST_DEPTH; node = node.next) {
                if (node.field != null && !node.isNothing()) {
                    writeField(node, node.field, names, depth);
                }
            }
        }

        private void writeField(Node node, Item field, Bytes names, int depth) {
            writeIndent(depth);
            given.addAll(names, field.nameAt, field.nameEnd);
            if (field.type == MESSAGE) {
                given.addText(" {\n");
                writeMessage(node, names, depth + 1);
                writeIndent(depth);
                given.addText("}\n");
                return;
            }
            given.addText(": ");
            if (isNumeric(field.type)) {
                writeNumber(field, node.number, names);
            } else {
                writeText(node);
            }
            given.add('\n');
        }

        private void writeIndent(int depth) {
            for (int k = 1; k < depth; k++) {
                given.addText("  ");
            }
        }

        private void writeNumber(Item field, long number, Bytes names) {
            Item named = field.type == ENUM && field.target != null ? field.target.memberNumbered(number) : null;
            if (named != null) {
                given.addAll(names, named.nameAt, named.nameEnd);
            } else if (field.type == BOOL) {
                given.addText(number != 0 ? "true" : "false");
            } else if (number < 0 && field.type != UINT64 && field.type != FIXED64) {
                given.add('-');
                writeDecimal(-number);
            } else {
                writeDecimal(number);
            }
        }

        /** Writes an unsigned number. */
        private void writeDecimal(long bits) {
            long rest = bits;
            int many = 0;
            do {
                // Half of it is no negative long, so that the division by ten can be one of longs.
                long tenth = (rest >>> 1) / 5;
                if (many < digits.length) {
                    digits[many] = (byte) (rest - tenth * 10);
                    many++;
                }
                rest = tenth;
            } while (rest != 0 && many < digits.length);
            for (int k = many - 1; k >= 0 && k < digits.length; k--) {
                given.add('0' + digits[k]);
            }
        }

        private void writeText(Node node) {
            given.add('"');
            for (int k = node.from; k < node.to; k++) {
                writeTextByte(value.texts.at(k));
            }
            given.add('"');
        }

        private void writeTextByte(int b) {
            for (int k = 0; k < PRINTED_ESCAPES && k < ESCAPED.length() && k < ESCAPES.length(); k++) {
                if (ESCAPED.charAt(k) == b) {
                    given.add('\\');
                    given.add(ESCAPES.charAt(k));
                    return;
                }
            }
            if (b >= 32 && b <= 126) {
                given.add(b);
                return;
            }
            given.add('\\');
            given.add('0' + (b >>> 6 & 7));
            given.add('0' + (b >>> 3 & 7));
            given.add('0' + (b & 7));
        }
    }

    /** Checks whether what an old message says is understood by a new one. */
    static final class Checker {
        private static final int AGREE = 0;
        private static final int REPEATED_DIFFERS = 1;
        private static final int TYPES_DIFFER = 2;
        private static final int ONEOFS_DIFFER = 3;
        private static final int PAIRS = MOST_MESSAGES * MOST_MESSAGES;
        /** Every pair looks at each of its old fields at most twice. */
        private static final int MOST_TURNS = 1000000;

        private final Bytes given;
        /** The way: at each step the old field that is looked at, and the new message. */
        private final Item[] fields;
        private final Item[] messages;
        private final boolean[] met;
        private int steps;

        Checker(Bytes given) {
            this.given = given;
            fields = new Item[PAIRS];
            messages = new Item[PAIRS];
            met = new boolean[PAIRS];
        }

        /** The reason why they do not agree, and the way to it given; 0 if they do. */
        int compare(Item old, Item fresh) {
            for (int k = 0; k < met.length; k++) {
                met[k] = false;
            }
            steps = 0;
            enter(old, fresh);
            for (int turn = 0; turn < MOST_TURNS && steps > 0; turn++) {
                int reason = look();
                if (reason != AGREE) {
                    tellWay();
                    return reason;
                }
            }
            return AGREE;
        }

        /** Goes into a pair of messages; false if it was met already, and so is taken to agree. */
        private boolean enter(Item old, Item fresh) {
            if (old == null || fresh == null || steps < 0 || steps >= fields.length || steps >= messages.length) {
                return false;
            }
            int pair = old.index * MOST_MESSAGES + fresh.index;
            if (pair < 0 || pair >= met.length || met[pair]) {
                return false;
            }
            met[pair] = true;
            fields[steps] = old.first;
            messages[steps] = fresh;
            steps++;
            return true;
        }

        /** Looks at the old field where the way ends, or goes back from a message that has no more. */
        private int look() {
            int top = steps - 1;
            if (top < 0 || top >= fields.length || top >= messages.length) {
                return AGREE;
            }
            Item old = fields[top];
            if (old == null) {
                // The field that led here is looked at again, and its messages are met by then.
                steps--;
                return AGREE;
            }
            Item fresh = messages[top] == null ? null : messages[top].memberNumbered(old.number);
            if (fresh == null) {
                fields[top] = old.next;
                return AGREE;
            }
            if (old.repeated != fresh.repeated) {
                return REPEATED_DIFFERS;
            }
            if (!isUnderstood(old.type, fresh.type)) {
                return TYPES_DIFFER;
            }
            if (old.type == MESSAGE && enter(old.target, fresh.target)) {
                return AGREE;
            }
            if (isTornApart(old, fresh, messages[top])) {
                return ONEOFS_DIFFER;
            }
            fields[top] = old.next;
            return AGREE;
        }

        /** Whether a new oneof has this field and one of a lower number that are not in one old oneof. */
        private static boolean isTornApart(Item old, Item fresh, Item holder) {
            if (fresh.owner == null || old.scope == null || holder == null) {
                return false;
            }
            for (Item lower = old.scope.first; lower != null && lower != old; lower = lower.next) {
                Item other = holder.memberNumbered(lower.number);
                boolean together = lower.owner != null && lower.owner == old.owner;
                if (other != null && other.owner == fresh.owner && !together) {
                    return true;
                }
            }
            return false;
        }

        private static boolean isUnderstood(int old, int fresh) {
            if (old == fresh) {
                return true;
            }
            switch (old) {
                case INT32:
                    return fresh == INT64 || fresh == ENUM;
                case UINT32:
                    return fresh == UINT64 || fresh == INT64;
                case SINT32:
                    return fresh == SINT64;
                case BOOL:
                    return fresh == INT32 || fresh == INT64 || fresh == UINT32 || fresh == UINT64 || fresh == ENUM;
                case ENUM:
                    return fresh == INT32 || fresh == INT64;
                case STRING:
                    return fresh == BYTES;
                default:
                    return false;
            }
        }

        private void tellWay() {
            for (int k = 0; k < steps && k < fields.length; k++) {
                if (fields[k] != null) {
                    given.addVarint(fields[k].number);
                }
            }
        }
    }
}
