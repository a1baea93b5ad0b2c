/** Promise by promise: ordinary inputs, the edges that the document names, and wrong inputs. */
public final class HexLoomPromises {
    private static final int LAST = -1;
    private static final String COLON_END = ":00000001FF";
    private static final String S_END = "S9030000FC";

    private static int wrong = 0;
    private static int promise = 0;

    private static void due(String what, long got, long want) {
        if (got != want) {
            wrong++;
            System.out.println("promise " + promise + ": " + what + " answered " + got + ", due is " + want);
        }
    }

    private static void due(String what, String got, String want) {
        if (!got.equals(want)) {
            wrong++;
            System.out.println("promise " + promise + ": " + what + " told\n  " + got + ", due is\n  " + want);
        }
    }

    private static long pack(String characters) {
        long packed = 0;
        for (char c : characters.toCharArray()) {
            packed = packed << 8 | c;
        }
        return packed;
    }

    private static void typeAll(HexLoom x, String text) {
        for (int i = 0; i < text.length(); i += 8) {
            String part = text.substring(i, Math.min(i + 8, text.length()));
            if (x.type(pack(part), part.length()) < part.length()) {
                throw new IllegalStateException("not typed: " + part);
            }
        }
    }

    /** A record of kind 0 of some bytes, with the sum that it is due. */
    private static String colon(String digits) {
        return ":" + digits + String.format("%02X", -sum(digits) & 255);
    }

    /** A record of kind 1 of a type and what stands behind the number of bytes, with both. */
    private static String s(int type, String digits) {
        String all = String.format("%02X", digits.length() / 2 + 1) + digits;
        return "S" + type + all + String.format("%02X", 255 - (sum(all) & 255));
    }

    private static int sum(String digits) {
        int sum = 0;
        for (int i = 0; i < digits.length(); i += 2) {
            sum += Integer.parseInt(digits.substring(i, i + 2), 16);
        }
        return sum;
    }

    private static void reads(HexLoom x, int kind, String text, int fault, int place) {
        typeAll(x, text);
        due("read(" + kind + ") of " + text, x.read(kind), fault);
        due("place() after " + text, x.place(), place);
        due("the text is empty after " + text, x.type(' ', 1), 1);
        x.read(2);
    }

    private static void faulty(int kind, String text, int fault, int place) {
        HexLoom x = new HexLoom();
        x.set(77, 7);
        x.begin(1, 99);
        reads(x, kind, text, fault, place);
        due("bytes after " + text, x.count(0), 1);
        due("the byte after " + text, x.get(77), 7);
        due("the start after " + text, x.start(), 99);
    }

    private static String told(HexLoom x) {
        StringBuilder all = new StringBuilder();
        for (int i = 0; i < x.count(3); i++) {
            all.append((char) x.character(i));
        }
        return all.toString();
    }

    private static void tells(HexLoom x, int kind, int wide, String want) {
        due("tell(" + kind + ", " + wide + ")", x.tell(kind, wide), want.length());
        due("tell(" + kind + ", " + wide + ")", told(x), want);
        due("count(3)", x.count(3), want.length());
    }

    /** 3000 bytes at 0 .. 2999. */
    private static HexLoom brimming() {
        HexLoom x = new HexLoom();
        for (int i = 0; i < 3000; i += 250) {
            x.fill(i, 250, 1);
        }
        return x;
    }

    public static void main(String[] args) {
        newObject();
        type();
        readKinds();
        readColon();
        readS();
        readColonFaults();
        readSFaults();
        readTooMany();
        place();
        set();
        drop();
        get();
        fill();
        copy();
        clear();
        beginAndStart();
        count();
        run();
        next();
        tellColon();
        tellS();
        tellRefused();
        character();
        check();
        constants();
        System.out.println(wrong == 0 ? "all promises hold" : wrong + " answers are not as due");
        if (wrong != 0) {
            System.exit(1);
        }
    }

    private static void newObject() {
        promise = 1;
        HexLoom x = new HexLoom();
        due("count(0)", x.count(0), 0);
        due("count(1)", x.count(1), 0);
        due("count(2)", x.count(2), 0);
        due("count(3)", x.count(3), 0);
        due("start()", x.start(), -1);
        due("place()", x.place(), -1);
        due("next(0)", x.next(0), -1);
        due("character(0)", x.character(0), -1);
        due("check()", x.check(), 1);
        x.set(1, 1);
        x.begin(1, 1);
        HexLoom y = new HexLoom();
        due("another one's count(0)", y.count(0), 0);
        due("another one's start()", y.start(), -1);
    }

    private static void type() {
        promise = 2;
        HexLoom x = new HexLoom();
        due("n 0", x.type(pack("00000000"), 0), -1);
        due("n -1", x.type(pack("00000000"), -1), -1);
        due("n 9", x.type(pack("00000000"), 9), -1);
        due("n MIN", x.type(pack("00000000"), Integer.MIN_VALUE), -1);
        due("character 31", x.type(31, 1), -1);
        due("character 127", x.type(127, 1), -1);
        due("character 0", x.type('A', 2), -1);
        due("character 255", x.type(-1L, 8), -1);
        due("the highest is wrong", x.type(pack("0000000") | 0x1FL << 56, 8), -1);
        due("the lowest is wrong", x.type(pack("0000000\u007f"), 8), -1);
        due("32 and 126", x.type(pack(" ~"), 2), 2);
        due("behind", x.type(pack("ab"), 1), 3);
        due("higher bytes don't matter", x.type(0x00FF1F7F00000041L, 1), 4);
        x.read(0);
        due("the highest comes first", x.type(pack(":0000000"), 8), 8);
        due("the highest comes first", x.type(0x0100000000000000L | pack("1FF"), 3), 11);
        due("read", x.read(0), 0);
        long eight = pack("        ");
        for (int i = 1; i <= 999; i++) {
            due("long", x.type(eight, 8), 8 * i);
        }
        due("long", x.type(eight, 7), 7999);
        due("too long", x.type(eight, 2), -1);
        due("8000", x.type(eight, 1), 8000);
        due("too long", x.type(eight, 1), -1);
        due("a long text", x.read(0), 10);
        due("then empty", x.type(eight, 8), 8);
    }

    private static void readKinds() {
        promise = 3;
        HexLoom x = new HexLoom();
        int[] none = {2, -1, Integer.MAX_VALUE, Integer.MIN_VALUE};
        for (int kind : none) {
            typeAll(x, COLON_END);
            due("read(" + kind + ")", x.read(kind), -1);
            due("the text is empty then", x.type(' ', 1), 1);
        }
        x.read(2);
        reads(x, 0, COLON_END, 0, -1);
        reads(x, 1, S_END, 0, -1);
        reads(x, 0, "   " + COLON_END + "  ", 0, -1);
        reads(x, 1, "   " + S_END + "  ", 0, -1);
        reads(x, 0, "", 10, 0);
        reads(x, 1, "", 10, 0);
        reads(x, 0, "  ", 10, 0);
        reads(x, 0, colon("01000000aB").toLowerCase() + " " + COLON_END, 0, -1);
        due("digits of both cases", x.get(0), 0xAB);
        reads(x, 0, colon("06000100abcdefABCDEF") + " :00000001ff", 0, -1);
        due("digits of both cases", x.get(3), 0xEF);
    }

    private static void readColon() {
        promise = 3;
        HexLoom x = new HexLoom();
        x.set(5, 1);
        x.set(9, 9);
        reads(x, 0, colon("0200050022FF") + " " + colon("00123400") + " " + COLON_END, 0, -1);
        due("over what was there", x.get(5), 0x22);
        due("behind it", x.get(6), 0xFF);
        due("what was there stays", x.get(9), 9);
        due("bytes", x.count(0), 3);
        due("no start", x.start(), -1);
        reads(x, 0, colon("0100050033") + " " + colon("0100040044") + " " + COLON_END, 0, -1);
        due("over the first of all", x.get(5), 0x33);
        due("before the first of all", x.get(4), 0x44);
        due("bytes", x.count(0), 4);
        due("check()", x.check(), 1);

        x = new HexLoom();
        reads(x, 0, colon("02FFFF000102") + " " + COLON_END, 0, -1);
        due("without a base, over the half", x.get(0x10000), 2);

        x = new HexLoom();
        reads(x, 0, colon("020000021000") + " " + colon("02FFFF000102") + " " + COLON_END, 0, -1);
        due("behind a segment", x.get(0x1FFFF), 1);
        due("behind a segment, round", x.get(0x10000), 2);

        x = new HexLoom();
        reads(x, 0, colon("02000002FFFF") + " " + colon("02FFFF000102") + " " + COLON_END, 0, -1);
        due("the highest segment", x.get(0x10FFEF), 1);
        due("the highest segment, round", x.get(0xFFFF0), 2);

        x = new HexLoom();
        reads(x, 0, colon("020000021000") + " " + colon("020000041234") + " " + colon("02FFFF000102")
                + " " + COLON_END, 0, -1);
        due("an upper half behind a segment", x.get(0x12350000), 2);

        x = new HexLoom();
        reads(x, 0, colon("02000004FFFF") + " " + colon("03FFFE00010203") + " " + COLON_END, 0, -1);
        due("over 32 bits", x.get(0), 3);
        due("the last address", x.get(LAST), 2);
        due("two runs", x.count(1), 2);
        reads(x, 0, colon("0100000007") + " " + COLON_END, 0, -1);
        due("the base is 0 at first again", x.get(0), 7);

        x = new HexLoom();
        reads(x, 0, colon("04000003FFFFFFFF") + " " + COLON_END, 0, -1);
        due("the start by a segment", x.start(), 0xFFFF0 + 0xFFFF);
        reads(x, 0, colon("04000005FFFFFFFE") + " " + COLON_END, 0, -1);
        due("the start", x.start(), 0xFFFFFFFEL);
        reads(x, 0, colon("0400000500000007") + " " + colon("0400000300010002") + " " + COLON_END, 0, -1);
        due("the last start of two", x.start(), 18);
        reads(x, 0, COLON_END, 0, -1);
        due("no start is told, so it stays", x.start(), 18);
    }

    private static void readS() {
        promise = 3;
        HexLoom x = new HexLoom();
        reads(x, 1, s(0, "123448656C6C6F") + " " + s(1, "FFFF0102") + " " + s(2, "FFFFFF0304") + " "
                + s(3, "FFFFFFFE0506") + " " + s(1, "0000") + " " + s(5, "0004") + " " + s(7, "DEADBEEF"), 0, -1);
        due("bytes", x.count(0), 6);
        due("type 1 goes over its addresses", x.get(0x10000), 2);
        due("type 2 goes over its addresses", x.get(0x1000000), 4);
        due("type 3 up to the last address", x.get(LAST), 6);
        due("the start", x.start(), 0xDEADBEEFL);
        reads(x, 1, s(8, "ABCDEF"), 0, -1);
        due("the start of type 8", x.start(), 0xABCDEF);
        reads(x, 1, s(9, "0000"), 0, -1);
        due("the start of type 9", x.start(), 0);
        reads(x, 1, s(5, "0000") + " " + s(1, "000001") + " " + s(5, "0001") + " " + S_END, 0, -1);
        reads(x, 1, s(2, "00FFFF09") + " " + S_END, 0, -1);
        due("over what was there", x.get(0xFFFF), 9);
    }

    private static void readColonFaults() {
        promise = 3;
        faulty(0, "0", 1, 0);
        faulty(0, "::", 2, 0);
        faulty(0, S_END, 1, 0);
        faulty(0, COLON_END.substring(1), 1, 0);
        faulty(0, ":0000000G", 2, 0);
        faulty(0, ":@", 2, 0);
        faulty(0, ":/", 2, 0);
        faulty(0, ":`", 2, 0);
        faulty(0, ":g", 2, 0);
        faulty(0, COLON_END + COLON_END, 2, 0);
        faulty(0, ":", 3, 0);
        faulty(0, ":0", 3, 0);
        faulty(0, ":000000FF", 3, 0);
        faulty(0, ":00000001F", 3, 0);
        faulty(0, ":00000001FF0", 3, 0);
        faulty(0, ":00000001FF00", 3, 0);
        faulty(0, ":01000001FE", 3, 0);
        faulty(0, colon("00000006"), 4, 0);
        faulty(0, colon("000000FF"), 4, 0);
        faulty(0, colon("0100000100"), 4, 0);
        faulty(0, colon("0100000200"), 4, 0);
        faulty(0, colon("03000002000000"), 4, 0);
        faulty(0, colon("020000030000"), 4, 0);
        faulty(0, colon("00000004"), 4, 0);
        faulty(0, colon("0400000400000000"), 4, 0);
        faulty(0, colon("020000050000"), 4, 0);
        faulty(0, ":0100000100FF", 4, 0);
        faulty(0, ":00000001FE", 5, 0);
        faulty(0, COLON_END + " " + COLON_END, 6, 1);
        faulty(0, COLON_END + " " + colon("0100000001"), 6, 1);
        faulty(0, COLON_END + " :00000001FE", 5, 1);
        faulty(0, COLON_END + " x", 1, 1);
        String byteAt5 = colon("0100050001");
        faulty(0, byteAt5 + " " + colon("020004000102") + " " + COLON_END, 8, 1);
        faulty(0, byteAt5 + " " + colon("020000020000") + " " + byteAt5 + " " + COLON_END, 8, 2);
        faulty(0, colon("0100000001") + " " + colon("02000004FFFF") + " " + colon("02FFFF000102") + " " + COLON_END,
                8, 2);
        faulty(0, byteAt5, 10, 1);
        faulty(0, byteAt5 + " " + colon("0400000512345678"), 10, 2);
        faulty(0, byteAt5 + " " + colon("0400000512345678") + " x", 1, 2);
    }

    private static void readSFaults() {
        promise = 3;
        faulty(1, COLON_END, 1, 0);
        faulty(1, "s9030000FC", 1, 0);
        faulty(1, "SA030000FC", 2, 0);
        faulty(1, "Sa", 2, 0);
        faulty(1, "S:", 2, 0);
        faulty(1, "S/", 2, 0);
        faulty(1, "S903000GFC", 2, 0);
        faulty(1, S_END + S_END, 2, 0);
        faulty(1, "S", 3, 0);
        faulty(1, "S4", 3, 0);
        faulty(1, "S90", 3, 0);
        faulty(1, "S9030000F", 3, 0);
        faulty(1, "S9030000FC00", 3, 0);
        faulty(1, "S9040000FB", 3, 0);
        faulty(1, "S900", 3, 0);
        faulty(1, "S901FE", 3, 0);
        faulty(1, s(9, "00"), 3, 0);
        faulty(1, s(4, "00"), 3, 0);
        faulty(1, s(6, "00"), 3, 0);
        faulty(1, s(2, "0000"), 3, 0);
        faulty(1, s(3, "000000"), 3, 0);
        faulty(1, s(7, "000000"), 3, 0);
        faulty(1, s(8, "0000"), 3, 0);
        faulty(1, s(4, "0000"), 4, 0);
        faulty(1, s(6, "0000"), 4, 0);
        faulty(1, s(6, "000000"), 4, 0);
        faulty(1, s(5, "000000"), 4, 0);
        faulty(1, s(7, "0000000000"), 4, 0);
        faulty(1, s(8, "00000000"), 4, 0);
        faulty(1, s(9, "000000"), 4, 0);
        faulty(1, "S904000000FF", 4, 0);
        faulty(1, "S9030000FD", 5, 0);
        faulty(1, s(0, "0000") + " S0030000FB", 5, 1);
        faulty(1, S_END + " " + S_END, 6, 1);
        faulty(1, S_END + " " + s(5, "0001"), 6, 1);
        faulty(1, S_END + " " + s(0, "0000"), 6, 1);
        faulty(1, S_END + " S0030000FB", 5, 1);
        faulty(1, s(5, "0001") + " " + S_END, 7, 0);
        faulty(1, s(1, "0000") + " " + s(0, "0000") + " " + s(5, "0002") + " " + S_END, 7, 2);
        faulty(1, s(1, "0000") + " " + s(5, "0101") + " " + S_END, 7, 1);
        faulty(1, s(1, "000501") + " " + s(2, "0000040102") + " " + S_END, 8, 1);
        faulty(1, s(3, "FFFFFFFF0102") + " " + S_END, 8, 0);
        faulty(1, s(1, "000501"), 10, 1);
        faulty(1, s(0, "0000") + " " + s(5, "0000"), 10, 2);
    }

    private static void readTooMany() {
        promise = 3;
        HexLoom x = brimming();
        reads(x, 0, colon("010BB80001") + " " + COLON_END, 9, 0);
        reads(x, 0, colon("020BB7000202") + " " + COLON_END, 9, 0);
        due("nothing is changed", x.get(2999), 1);
        reads(x, 0, colon("010BB70002") + " " + COLON_END, 0, -1);
        due("over what was there", x.get(2999), 2);
        x.drop(0);
        reads(x, 1, s(1, "0BB805") + " " + s(1, "0BB905") + " " + S_END, 9, 1);
        reads(x, 1, s(1, "0BB805") + " " + s(1, "000105") + " " + S_END, 0, -1);
        due("full again", x.count(0), 3000);
        due("the new one", x.get(3000), 5);
        due("the other one", x.get(1), 5);
        reads(x, 1, s(3, "FFFFFFFF0102") + " " + S_END, 8, 0);
        reads(x, 0, colon("010BB90001"), 9, 0);
        due("check()", x.check(), 1);

        // A text may itself have more than the image may have: the fault is that of its record.
        x = new HexLoom();
        StringBuilder text = new StringBuilder();
        for (int i = 0; i < 12; i++) {
            text.append(colon("FF" + String.format("%04X", i * 255) + "00" + "11".repeat(255))).append(' ');
        }
        reads(x, 0, text + COLON_END, 9, 11);
        due("nothing is changed", x.count(0), 0);
    }

    private static void place() {
        promise = 4;
        HexLoom x = new HexLoom();
        due("no read", x.place(), -1);
        x.read(7);
        due("no read with a kind", x.place(), -1);
        x.read(0);
        due("of all records", x.place(), 0);
        reads(x, 0, colon("00000000") + " " + colon("00000000"), 10, 2);
        reads(x, 1, s(0, "0000") + "  " + s(0, "0000") + " S", 3, 2);
        x.read(-1);
        due("a read without a kind is none", x.place(), 2);
        reads(x, 1, S_END, 0, -1);
        x.read(-1);
        due("a read without a kind is none", x.place(), -1);
    }

    private static void set() {
        promise = 5;
        HexLoom x = new HexLoom();
        due("set(0, 0)", x.set(0, 0), 1);
        due("get(0)", x.get(0), 0);
        due("set(0, 255)", x.set(0, 255), 1);
        due("get(0)", x.get(0), 255);
        due("set(0, 256)", x.set(0, 256), 0);
        due("set(0, -1)", x.set(0, -1), 0);
        due("get(0)", x.get(0), 255);
        due("set(LAST, 3)", x.set(LAST, 3), 1);
        due("set(MIN, 4)", x.set(Integer.MIN_VALUE, 4), 1);
        due("count(0)", x.count(0), 3);
        due("the order is without sign", x.run(1, 0), 1L << 31);
        x = brimming();
        due("one too many", x.set(3000, 1), 0);
        due("not there", x.get(3000), -1);
        due("over one", x.set(2999, 8), 1);
        due("over one", x.get(2999), 8);
    }

    private static void drop() {
        promise = 6;
        HexLoom x = new HexLoom();
        due("of none", x.drop(0), -1);
        x.fill(10, 3, 200);
        due("the middle", x.drop(11), 200);
        due("again", x.drop(11), -1);
        due("runs", x.count(1), 2);
        due("bytes", x.count(0), 2);
        x.set(LAST, 0);
        due("the last address", x.drop(LAST), 0);
        due("beside", x.drop(9), -1);
        due("beside", x.drop(13), -1);
        x = brimming();
        due("of many", x.drop(1500), 1);
        due("room again", x.set(5000, 2), 1);
        due("full again", x.set(5001, 2), 0);
    }

    private static void get() {
        promise = 7;
        HexLoom x = new HexLoom();
        x.set(100, 7);
        due("there", x.get(100), 7);
        due("before", x.get(99), -1);
        due("behind", x.get(101), -1);
        due("far", x.get(LAST), -1);
        x.set(LAST, 255);
        due("the last address", x.get(LAST), 255);
        due("0 is not behind it", x.get(0), -1);
    }

    private static void fill() {
        promise = 8;
        HexLoom x = new HexLoom();
        due("n 0", x.fill(0, 0, 1), 0);
        due("n -1", x.fill(0, -1, 1), 0);
        due("n 257", x.fill(0, 257, 1), 0);
        due("n MAX", x.fill(0, Integer.MAX_VALUE, 1), 0);
        due("n MIN", x.fill(0, Integer.MIN_VALUE, 1), 0);
        due("value 256", x.fill(0, 1, 256), 0);
        due("value -1", x.fill(0, 1, -1), 0);
        due("over the last address", x.fill(-255, 256, 1), 0);
        due("over the last address", x.fill(LAST, 2, 1), 0);
        due("nothing is done", x.count(0), 0);
        due("up to the last address", x.fill(-256, 256, 1), 1);
        due("the last address alone", x.fill(LAST, 1, 9), 1);
        due("at the sign", x.fill(Integer.MAX_VALUE, 2, 3), 1);
        due("count(0)", x.count(0), 258);
        due("count(2)", x.count(2), 255 + 9 + 6);
        x.set(5, 50);
        x.set(7, 70);
        x.set(9, 90);
        due("over some", x.fill(6, 3, 1), 1);
        due("before", x.get(5), 50);
        due("first", x.get(6), 1);
        due("over one", x.get(7), 1);
        due("last", x.get(8), 1);
        due("behind", x.get(9), 90);
        x = brimming();
        due("one too many", x.fill(2900, 101, 5), 0);
        due("nothing is done", x.get(2900), 1);
        due("over bytes", x.fill(2900, 100, 5), 1);
        due("bytes", x.count(0), 3000);
        due("check()", x.check(), 1);
    }

    private static void copy() {
        promise = 9;
        HexLoom x = new HexLoom();
        x.set(10, 1);
        x.set(12, 3);
        x.fill(20, 3, 9);
        due("bytes and gaps", x.copy(10, 3, 20), 1);
        due("byte", x.get(20), 1);
        due("gap", x.get(21), -1);
        due("byte", x.get(22), 3);
        due("the source stays", x.get(10), 1);
        due("gaps alone", x.copy(500, 256, 20), 1);
        due("bytes", x.count(0), 2);

        x = new HexLoom();
        for (int i = 0; i < 6; i++) {
            x.set(100 + i, i);
        }
        due("up, overlapping", x.copy(100, 5, 102), 1);
        int[] up = {0, 1, 0, 1, 2, 3, 4};
        for (int i = 0; i < up.length; i++) {
            due("up " + i, x.get(100 + i), up[i]);
        }
        due("down, overlapping", x.copy(101, 6, 99), 1);
        int[] down = {1, 0, 1, 2, 3, 4, 3, 4};
        for (int i = 0; i < down.length; i++) {
            due("down " + i, x.get(99 + i), down[i]);
        }
        due("onto itself", x.copy(99, 8, 99), 1);
        due("bytes", x.count(0), 8);

        due("n 0", x.copy(99, 0, 0), 0);
        due("n -1", x.copy(99, -1, 0), 0);
        due("n 257", x.copy(99, 257, 1000), 0);
        due("n 256", x.copy(99, 256, 1000), 1);
        due("from over the last", x.copy(-2, 3, 0), 0);
        due("to over the last", x.copy(0, 3, -2), 0);
        due("from the last ones", x.copy(-3, 3, 99), 1);
        due("to the last ones", x.copy(102, 3, -3), 1);
        due("there", x.get(LAST), 4);
        due("gone", x.get(99), -1);

        x = brimming();
        due("too many", x.copy(0, 1, 3000), 0);
        due("too many", x.copy(2998, 2, 2999), 0);
        due("nothing is done", x.get(3000), -1);
        due("as many", x.copy(0, 256, 256), 1);
        due("fewer", x.copy(2999, 2, 1000), 1);
        due("bytes", x.count(0), 2999);
        due("as many as there may be", x.copy(2999, 2, 3000), 1);
        due("bytes", x.count(0), 3000);
        due("check()", x.check(), 1);
    }

    private static void clear() {
        promise = 10;
        HexLoom x = new HexLoom();
        due("of none", x.clear(), 0);
        x.fill(0, 7, 1);
        x.begin(1, 5);
        x.tell(0, 16);
        int told = x.count(3);
        typeAll(x, COLON_END);
        due("of seven", x.clear(), 7);
        due("bytes", x.count(0), 0);
        due("runs", x.count(1), 0);
        due("a byte", x.get(3), -1);
        due("the start stays", x.start(), 5);
        due("what was told stays", x.count(3), told);
        due("the text stays", x.read(0), 0);
        x = brimming();
        due("of all", x.clear(), 3000);
        due("room again", x.set(9, 1), 1);
    }

    private static void beginAndStart() {
        promise = 11;
        HexLoom x = new HexLoom();
        due("way 2", x.begin(2, 4), 0);
        due("way -1", x.begin(-1, 4), 0);
        due("nothing is done", x.start(), -1);
        due("way 1", x.begin(1, 0), 1);
        due("start 0", x.start(), 0);
        due("way 1", x.begin(1, Integer.MIN_VALUE), 1);
        due("way 2", x.begin(2, 4), 0);
        promise = 12;
        due("without sign", x.start(), 1L << 31);
        x.begin(1, LAST);
        due("the last address is not NONE", x.start(), 0xFFFFFFFFL);
        promise = 11;
        due("way 0", x.begin(0, 77), 1);
        promise = 12;
        due("none", x.start(), -1);
    }

    private static void count() {
        promise = 13;
        HexLoom x = brimming();
        due("all", x.count(0), 3000);
        due("one run", x.count(1), 1);
        x.fill(0, 256, 255);
        due("sum", x.count(2), 3000 + 256 * 254);
        due("nothing told", x.count(3), 0);
        x.drop(1000);
        due("two runs", x.count(1), 2);
        x.tell(1, 32);
        x.clear();
        due("no bytes", x.count(0), 0);
        due("no runs", x.count(1), 0);
        due("no sum", x.count(2), 0);
        int[] none = {4, -1, Integer.MAX_VALUE, Integer.MIN_VALUE};
        for (int what : none) {
            due("count(" + what + ")", x.count(what), -1);
        }
        x.set(0, 0);
        x.set(LAST, 0);
        due("address 0 is not behind the last", x.count(1), 2);
        due("sum of zeros", x.count(2), 0);
    }

    private static void run() {
        promise = 14;
        HexLoom x = new HexLoom();
        due("none", x.run(0, 0), -1);
        due("none", x.run(0, 1), -1);
        x.fill(-2, 2, 1);
        x.fill(0, 3, 1);
        x.fill(0x7FFFFFF0, 32, 1);
        due("run 0", x.run(0, 0), 0);
        due("run 0", x.run(0, 1), 3);
        due("run 1", x.run(1, 0), 0x7FFFFFF0L);
        due("run 1", x.run(1, 1), 32);
        due("run 2", x.run(2, 0), 0xFFFFFFFEL);
        due("run 2", x.run(2, 1), 2);
        due("run 3", x.run(3, 0), -1);
        due("run 3", x.run(3, 1), -1);
        due("run -1", x.run(-1, 0), -1);
        due("run MIN", x.run(Integer.MIN_VALUE, 1), -1);
        x.set(100, 0);
        due("a run of one", x.run(1, 0), 100);
        due("a run of one", x.run(1, 1), 1);
        due("what 2", x.run(0, 2), -1);
        due("what -1", x.run(0, -1), -1);
    }

    private static void next() {
        promise = 15;
        HexLoom x = new HexLoom();
        due("none", x.next(0), -1);
        x.set(5, 1);
        due("before", x.next(0), 5);
        due("at it", x.next(5), 5);
        due("behind", x.next(6), -1);
        due("not round", x.next(LAST), -1);
        x.set(Integer.MIN_VALUE, 1);
        due("without sign", x.next(6), 1L << 31);
        x.set(LAST, 1);
        due("the last address", x.next(Integer.MIN_VALUE + 1), 0xFFFFFFFFL);
        due("the last address", x.next(LAST), 0xFFFFFFFFL);
    }

    private static void tellColon() {
        promise = 16;
        HexLoom x = new HexLoom();
        tells(x, 0, 1, COLON_END);
        x.begin(1, LAST);
        tells(x, 0, 1, colon("04000005FFFFFFFF") + " " + COLON_END);
        x.begin(1, 0);
        tells(x, 0, 32, colon("0400000500000000") + " " + COLON_END);
        x.begin(0, 0);
        x.fill(7, 5, 0xAB);
        tells(x, 0, 2, colon("02000700ABAB") + " " + colon("02000900ABAB") + " " + colon("01000B00AB")
                + " " + COLON_END);
        tells(x, 0, 5, colon("05000700ABABABABAB") + " " + COLON_END);
        tells(x, 0, 4, colon("04000700ABABABAB") + " " + colon("01000B00AB") + " " + COLON_END);

        x = new HexLoom();
        x.fill(0xFFFD, 8, 1);
        x.set(0x20000, 2);
        x.set(0x20002, 3);
        x.set(LAST, 4);
        tells(x, 0, 4, colon("03FFFD00010101") + " " + colon("020000040001") + " " + colon("0400000001010101")
                + " " + colon("0100040001") + " " + colon("020000040002") + " " + colon("0100000002") + " "
                + colon("0100020003") + " " + colon("02000004FFFF") + " " + colon("01FFFF0004") + " " + COLON_END);
        HexLoom y = new HexLoom();
        reads(y, 0, told(x), 0, -1);
        y.tell(0, 4);
        due("told again", told(y), told(x));
        due("bytes read", y.count(0), x.count(0));
    }

    private static void tellS() {
        promise = 16;
        HexLoom x = new HexLoom();
        tells(x, 1, 1, "S0030000FC S5030000FC S9030000FC");
        x.begin(1, 0xFFFF);
        tells(x, 1, 1, "S0030000FC S5030000FC " + s(9, "FFFF"));
        x.begin(1, 0x10000);
        tells(x, 1, 1, "S0030000FC S5030000FC " + s(8, "010000"));
        x.begin(1, 0xFFFFFF);
        tells(x, 1, 1, "S0030000FC S5030000FC " + s(8, "FFFFFF"));
        x.begin(1, 0x1000000);
        tells(x, 1, 1, "S0030000FC S5030000FC " + s(7, "01000000"));
        x.begin(1, LAST);
        tells(x, 1, 1, "S0030000FC S5030000FC " + s(7, "FFFFFFFF"));
        x.begin(0, 0);
        x.fill(0xFFFD, 3, 0xCD);
        tells(x, 1, 2, "S0030000FC " + s(1, "FFFDCDCD") + " " + s(1, "FFFFCD") + " " + s(5, "0002") + " " + S_END);
        x.set(0x10000, 1);
        tells(x, 1, 32, "S0030000FC " + s(2, "00FFFDCDCDCD01") + " " + s(5, "0001") + " " + s(8, "000000"));
        x.set(0xFFFFFF, 2);
        tells(x, 1, 32, "S0030000FC " + s(2, "00FFFDCDCDCD01") + " " + s(2, "FFFFFF02") + " " + s(5, "0002")
                + " " + s(8, "000000"));
        x.set(0x1000000, 3);
        x.begin(1, 5);
        tells(x, 1, 3, "S0030000FC " + s(3, "0000FFFDCDCDCD") + " " + s(3, "0001000001") + " "
                + s(3, "00FFFFFF0203") + " " + s(5, "0003") + " " + s(7, "00000005"));
        HexLoom y = new HexLoom();
        reads(y, 1, told(x), 0, -1);
        y.tell(1, 3);
        due("told again", told(y), told(x));
        due("bytes read", y.count(0), x.count(0));
    }

    private static void tellRefused() {
        promise = 16;
        HexLoom x = brimming();
        due("tell", x.tell(0, 32), told(x).length());
        String before = told(x);
        due("kind 2", x.tell(2, 16), -1);
        due("kind -1", x.tell(-1, 16), -1);
        due("wide 0", x.tell(0, 0), -1);
        due("wide 33", x.tell(1, 33), -1);
        due("wide -1", x.tell(0, -1), -1);
        due("wide MAX", x.tell(1, Integer.MAX_VALUE), -1);
        due("too long", x.tell(0, 1), -2);
        due("too long", x.tell(1, 1), -2);
        due("no kind before too long", x.tell(3, 1), -1);
        due("what was told stays", told(x), before);

        // Records of one byte each have 14 characters in kind 0, the end has 11.
        x = new HexLoom();
        for (int i = 0; i < 856; i += 214) {
            x.fill(i, 214, 1);
        }
        due("just not too long", x.tell(0, 1), 856 * 14 + 11);
        x.begin(1, 0);
        x.set(0, 2);
        due("too long with a start", x.tell(0, 1), -2);
        due("the old length", x.count(3), 856 * 14 + 11);
        due("the old characters", x.character(10), '1');

        // Told with wide 2, a cut of 2 or 1 bytes has 16 or 14 characters in kind 0, 15 or 13 in kind 1;
        // the rest has 11 and 32.
        lengthIs(pairsAndSingles(744, 6), 0, 11999);
        lengthIs(pairsAndSingles(745, 5), 0, -2);
        lengthIs(pairsAndSingles(797, 1), 1, 12000);
        lengthIs(pairsAndSingles(791, 8), 1, -2);
        x = pairsAndSingles(797, 1);
        x.tell(1, 2);
        due("the last character", x.character(11999), 'C');
        due("none behind", x.character(12000), -1);
        x.set(9000, 1);
        due("too long", x.tell(1, 2), -2);
        due("12000 stay", x.count(3), 12000);
        due("the last one stays", x.character(11999), 'C');
    }

    private static void lengthIs(HexLoom x, int kind, int length) {
        due("tell(" + kind + ", 2) at the edge", x.tell(kind, 2), length);
    }

    private static HexLoom pairsAndSingles(int pairs, int singles) {
        HexLoom x = new HexLoom();
        for (int i = 0; i < pairs * 2; i += 256) {
            x.fill(i, Math.min(256, pairs * 2 - i), 0);
        }
        for (int i = 0; i < singles; i++) {
            x.set(4000 + 2 * i, 0);
        }
        return x;
    }

    private static void character() {
        promise = 17;
        HexLoom x = new HexLoom();
        due("nothing told", x.character(0), -1);
        x.tell(0, 16);
        due("the first", x.character(0), ':');
        due("the last", x.character(10), 'F');
        due("behind", x.character(11), -1);
        due("before", x.character(-1), -1);
        due("MIN", x.character(Integer.MIN_VALUE), -1);
        due("MAX", x.character(Integer.MAX_VALUE), -1);
        x.tell(1, 16);
        due("a longer one", x.character(31), 'C');
        x.tell(0, 16);
        due("a shorter one", x.character(11), -1);
        x.set(0, 0xAF);
        due("the image changes, what was told doesn't", told(x), COLON_END);
    }

    private static void check() {
        promise = 18;
        HexLoom x = new HexLoom();
        for (int i = 0; i < 100; i++) {
            x.set(i * 0x1234567, i);
            x.copy(i * 0x1234567, 1 + i, i * 0x7654321);
            x.drop(i * 0x7654321 + i / 2);
            due("check()", x.check(), 1);
        }
        x.clear();
        due("check() of none", x.check(), 1);
        x.set(LAST, 255);
        x.set(0, 0);
        due("check() at both ends", x.check(), 1);
        due("check() of all", brimming().check(), 1);
    }

    private static void constants() {
        promise = 0;
        due("NONE", HexLoom.NONE, -1);
        due("FULL", HexLoom.FULL, -2);
    }
}
