/** Each sentence of the promises 1 to 15 that names a boundary case. */
public final class HexLoomCallEdges extends Edges {
    public static void main(String[] args) {
        newObject();
        type();
        read();
        place();
        set();
        drop();
        get();
        fill();
        copy();
        clear();
        begin();
        start();
        count();
        run();
        next();
        finish();
    }

    // Promises 1 to 4

    private static void newObject() {
        says("No bytes, no start.");
        Loom x = new Loom();
        due("seen", x.seen(), "start -1, sum 0, 0 bytes in 0 runs, told 0 ");
        due("next(0)", x.next(0), -1);
        due("get(0)", x.get(0), -1);
        due("place()", x.place(), -1);
        due("check()", x.check(), 1);
        due("the typed text is empty", x.type('0', 1), 1);
        Loom full = with(3000);
        full.begin(1, 5);
        full.tell(0, 32);
        due("another one beside a full one", new Loom().seen(), "start -1, sum 0, 0 bytes in 0 runs, told 0 ");
    }

    private static void type() {
        says("Puts n characters behind the text that is typed, the lowest n bytes of a number, the highest of them"
                + " first: how long it is.");
        Loom x = new Loom();
        String text = data(0x1234, "56789ABCDEF0") + "  " + COLON_END;
        int length = 0;
        for (int n = 1; length < text.length(); n = n % 8 + 1) {
            int some = Math.min(n, text.length() - length);
            long packed = pack(text.substring(length, length + some));
            long above = some == 8 ? 0 : 0x8100007F1FFF0001L << 8 * some;
            length += some;
            due("type of " + some, x.type(packed | above, some), length);
        }
        due("read(0) of it", x.read(0), 0);
        due("its bytes", x.run(0, 0) * 10 + x.run(0, 1), 0x1234 * 10 + 6);
        due("its first byte", x.get(0x1234), 0x56);
        due("its last byte", x.get(0x1239), 0xF0);

        says("NONE, and nothing is put, when n is not 1 .. 8");
        typingRefused(pack("00000000"), 0);
        typingRefused(pack("00000000"), 9);
        typingRefused(pack("00000000"), -1);
        typingRefused(pack("00000000"), LEAST);
        typingRefused(pack("00000000"), MOST);
        due("n 1", new Loom().type('0', 1), 1);
        due("n 8", new Loom().type(pack("00000000"), 8), 8);

        says("NONE, and nothing is put, when .. one is not 32 .. 126");
        for (int c = 0; c < 256; c++) {
            boolean right = c >= 32 && c <= 126;
            for (int at = 0; at < 8; at++) {
                long packed = pack("00000000") & ~(255L << 8 * at) | (long) c << 8 * at;
                due("type of " + c + " at " + at, new Loom().type(packed, 8), right ? 8 : -1);
            }
            due("type of " + c + " alone", new Loom().type(c, 1), right ? 1 : -1);
        }
        typingRefused(31, 1);
        typingRefused(127, 1);
        typingRefused(pack("0") << 8 | 31, 2);
        typingRefused(127L << 56 | pack("0000000"), 8);
        typingRefused(-1L, 8);
        typingRefused(0, 1);

        says("NONE, and nothing is put, when .. there would be more than 8000");
        longestTyped();
    }

    /** Refused in the midst of a text, which is then read as if nothing had been. */
    private static void typingRefused(long characters, int n) {
        Loom x = new Loom();
        typeAll(x, data(7, "08") + " :0000");
        unchanged(x, () -> due("type(" + characters + ", " + n + ")", x.type(characters, n), -1));
        due("how long it is then", x.type(pack("0001FF"), 6), 14 + 11);
        due("read(0) of the rest", x.read(0), 0);
        due("get(7)", x.get(7), 8);
    }

    /** The limit is out of reach for 512 calls of 8 characters; the class has it all the same. */
    private static void longestTyped() {
        for (int n = 1; n <= 8; n++) {
            Loom x = new Loom(MOST);
            typeAll(x, COLON_END + " ".repeat(8000 - 11 - n));
            if (n < 8) {
                due("more than 8000 by one", x.type(pack("xxxxxxxx"), n + 1), -1);
            }
            due("8000", x.type(pack("        "), n), 8000);
            due("8001", x.type('x', 1), -1);
            due("8008", x.type(pack("xxxxxxxx"), 8), -1);
            due("read(0) of 8000", x.read(0), 0);
            due("then it is empty", x.type(' ', 1), 1);
        }
    }

    private static void read() {
        says("Reads the typed text, which is empty then");
        Loom x = new Loom();
        takes(x, 0, data(5, "05"), COLON_END);
        due("empty behind a good one", x.type(' ', 1), 1);
        due("read(0)", x.read(0), 10);
        due("empty behind a blank one", x.type(' ', 1), 1);
        typeAll(x, COLON_END + " x");
        due("read(0)", x.read(0), 1);
        due("empty behind a bad one", x.type(' ', 1), 1);
        due("read(1)", x.read(1), 10);
        due("empty behind an empty one", x.read(0), 10);

        says("NONE when there is no such kind. (The text is empty then, too.)");
        for (int kind : new int[] {-1, 2, LEAST, MOST}) {
            Loom y = new Loom();
            y.set(7, 7);
            y.begin(1, 7);
            typeAll(y, data(5, "05") + " " + COLON_END);
            unchanged(y, () -> due("read(" + kind + ")", y.read(kind), -1));
            due("read(0) of what is left", y.read(0), 10);
            due("all records of what is left", y.place(), 0);
        }
        due("kind 0", faultOf(0, COLON_END), 0);
        due("kind 1", faultOf(1, S_END), 0);
    }

    private static void place() {
        says("The number, from 0, of the record that had the fault of the latest read()");
        for (int good = 0; good < 20; good++) {
            Loom x = new Loom();
            typeAll(x, (data(0, "") + "  ").repeat(good) + "x " + COLON_END);
            due("read(0) behind " + good, x.read(0), 1);
            due("place() behind " + good, x.place(), good);
        }
        says("(of all records for 10)");
        for (int good = 0; good < 20; good++) {
            Loom x = new Loom();
            typeAll(x, (s(0, "0000") + "  ").repeat(good));
            due("read(1) of " + good, x.read(1), 10);
            due("place() of " + good, x.place(), good);
        }
        says("NONE when it had none");
        Loom x = new Loom();
        reading(x, 0, "x");
        due("a fault", x.place(), 0);
        reading(x, 0, COLON_END);
        due("none", x.place(), -1);

        says("or there was no read() with a kind");
        x = new Loom();
        due("no read()", x.place(), -1);
        x.read(2);
        due("no read() with a kind", x.place(), -1);
        reading(x, 1, s(0, "0000"), "x");
        x.read(-1);
        due("the latest read() with a kind", x.place(), 1);
        reading(x, 1, S_END);
        x.read(2);
        due("the latest read() with a kind had none", x.place(), -1);
        reading(x, 1, "S");
        x.tell(0, 1);
        x.clear();
        x.type('x', 1);
        x.type(0, 0);
        due("other calls leave it", x.place(), 0);
    }

    // Promises 5 to 10

    private static void set() {
        says("0, and nothing is done, when it is not 0 .. 255");
        Loom x = new Loom();
        due("value 0", x.set(3, 0), 1);
        due("get(3)", x.get(3), 0);
        due("value 255", x.set(3, 255), 1);
        due("get(3)", x.get(3), 255);
        for (int value : new int[] {-1, 256, LEAST, MOST}) {
            unchanged(x, () -> due("over a byte, value " + value, x.set(3, value), 0));
            unchanged(x, () -> due("at a gap, value " + value, x.set(4, value), 0));
        }

        says("0, and nothing is done, when .. there would be too many");
        Loom y = with(2999);
        due("the 3000th", y.set(LAST, 7), 1);
        due("it is there", y.get(LAST), 7);
        unchanged(y, () -> due("the 3001st, behind", y.set(2999, 7), 0));
        unchanged(y, () -> due("the 3001st, far behind", y.set(-2, 7), 0));
        due("over the first", y.set(0, 9), 1);
        due("over the last", y.set(LAST, 8), 1);
        due("both", y.get(0) * 10 + y.get(LAST), 98);
        y.drop(1000);
        due("room for one", y.set(-2, 6), 1);
        due("no more", y.set(1000, 6), 0);

        says("An address gets a byte: 1");
        for (int address : new int[] {0, MOST, LEAST, LAST}) {
            Loom z = new Loom();
            due("set(" + address + ", 5)", z.set(address, 5), 1);
            due("get(" + address + ")", z.get(address), 5);
            due("run(0, 0)", z.run(0, 0), address & 0xFFFFFFFFL);
            due("count(0)", z.count(0), 1);
        }
    }

    private static void drop() {
        says("An address has no byte any more: the one it had");
        Loom x = new Loom();
        x.fill(10, 4, 0);
        x.set(LAST, 255);
        due("a byte 0", x.drop(10), 0);
        due("a byte 255", x.drop(LAST), 255);
        due("the last of a run", x.drop(13), 0);
        due("what is left", x.run(0, 0) * 10 + x.run(0, 1), 112);
        due("count(0)", x.count(0), 2);

        says("NONE when it had none");
        for (int gap : new int[] {0, 10, 13, LAST, LEAST, MOST}) {
            unchanged(x, () -> due("drop(" + gap + ")", x.drop(gap), -1));
        }
        due("of none at all", new Loom().drop(0), -1);
        Loom full = with(3000);
        unchanged(full, () -> due("a gap beside 3000", full.drop(3000), -1));
        due("the last of 3000", full.drop(2999), 1);
        due("the first of 3000", full.drop(0), 1);
        due("2998 in one run", full.run(0, 1), 2998);
    }

    private static void get() {
        says("The byte at an address; NONE for a gap.");
        Loom x = new Loom();
        due("of none at all", x.get(0), -1);
        x.set(100, 0);
        x.set(102, 255);
        due("before", x.get(99), -1);
        due("a byte 0", x.get(100), 0);
        due("between", x.get(101), -1);
        due("a byte 255", x.get(102), 255);
        due("behind", x.get(103), -1);
        x.set(LAST, 1);
        due("the last address", x.get(LAST), 1);
        due("address 0", x.get(0), -1);
        due("before the last", x.get(-2), -1);
    }

    private static void fill() {
        says("0, and nothing is done, when n is not 1 .. 256");
        Loom x = new Loom();
        due("n 1", x.fill(300, 1, 1), 1);
        due("n 256", x.fill(0, 256, 2), 1);
        due("runs", x.run(0, 1) * 1000 + x.run(1, 1), 256001);
        for (int n : new int[] {0, 257, -1, -256, LEAST, MOST}) {
            unchanged(x, () -> due("n " + n, x.fill(100, n, 9), 0));
        }

        says("0, and nothing is done, when .. it is not 0 .. 255");
        Loom u = new Loom();
        due("value 0", u.fill(0, 3, 0), 1);
        due("value 255", u.fill(3, 3, 255), 1);
        due("both", u.get(2) + u.get(3), 255);
        for (int value : new int[] {-1, 256, LEAST, MOST}) {
            unchanged(u, () -> due("value " + value, u.fill(2, 10, value), 0));
        }

        says("0, and nothing is done, when .. they would go over the last address");
        Loom y = new Loom();
        unchanged(y, () -> due("256 from -255", y.fill(-255, 256, 1), 0));
        unchanged(y, () -> due("2 from the last", y.fill(LAST, 2, 1), 0));
        unchanged(y, () -> due("256 from the last", y.fill(LAST, 256, 1), 0));
        due("256 up to the last", y.fill(-256, 256, 1), 1);
        due("the last alone", y.fill(LAST, 1, 2), 1);
        due("the run", y.run(0, 0), 0xFFFFFF00L);
        due("its bytes", y.run(0, 1), 256);
        due("0 is a gap", y.get(0), -1);
        due("over the sign", y.fill(MOST, 2, 1), 1);
        due("its bytes", y.run(0, 1), 2);

        says("0, and nothing is done, when .. there would be too many");
        Loom z = with(2744);
        due("256 up to 3000", z.fill(2744, 256, 3), 1);
        due("3000", z.count(0), 3000);
        unchanged(z, () -> due("one over", z.fill(3000, 1, 3), 0));
        unchanged(z, () -> due("one over, 255 there", z.fill(2745, 256, 4), 0));
        due("all there", z.fill(2744, 256, 4), 1);
        due("the last of them", z.get(2999), 4);
        Loom w = with(2745);
        unchanged(w, () -> due("256 of 255", w.fill(2745, 256, 3), 0));
        due("255 of 255", w.fill(4000, 255, 3), 1);

        says("All of n addresses from one on get a byte");
        Loom v = new Loom();
        v.set(9, 9);
        v.set(11, 9);
        v.set(13, 9);
        due("over and between", v.fill(10, 3, 1), 1);
        due("seen", v.seen(), "start -1, sum 21, 5 bytes in 1 runs 9+5: 9 1 1 1 9 9, told 0 ");
    }

    private static void copy() {
        says("n addresses from to on become what n addresses from from on are, bytes and gaps");
        Loom x = new Loom();
        x.set(10, 1);
        x.set(12, 3);
        x.fill(19, 5, 9);
        due("bytes and gaps", x.copy(10, 3, 20), 1);
        due("seen", x.seen(), "start -1, sum 26, 6 bytes in 4 runs 10+1: 1 1 12+1: 3 3 19+2: 9 1 1 22+2: 3 9 9, told 0 ");
        due("gaps alone", x.copy(500, 256, 0), 1);
        due("none is left", x.count(0), 0);
        due("gaps onto gaps", x.copy(500, 256, 0), 1);

        says("as these were before");
        for (int shift = -5; shift <= 5; shift++) {
            overlapping(shift);
        }

        says("0, and nothing is done, likewise: n is not 1 .. 256");
        Loom y = with(300);
        due("n 1", y.copy(0, 1, 1000), 1);
        due("n 256", y.copy(0, 256, 2000), 1);
        due("runs", y.run(1, 1) * 1000 + y.run(2, 1), 1256);
        for (int n : new int[] {0, 257, -1, -256, LEAST, MOST}) {
            Loom fresh = with(300);
            unchanged(fresh, () -> due("n " + n, fresh.copy(0, n, 3000), 0));
            unchanged(fresh, () -> due("gaps, n " + n, fresh.copy(5000, n, 0), 0));
        }

        says("0, and nothing is done, likewise: they would go over the last address");
        Loom z = new Loom();
        z.fill(-256, 256, 5);
        z.fill(1, 256, 6);
        unchanged(z, () -> due("to, by one", z.copy(1, 256, -255), 0));
        unchanged(z, () -> due("to, 2 from the last", z.copy(1, 2, LAST), 0));
        unchanged(z, () -> due("from, by one", z.copy(-255, 256, 1), 0));
        unchanged(z, () -> due("from, 2 from the last", z.copy(LAST, 2, 1), 0));
        unchanged(z, () -> due("both", z.copy(-1, 2, -1), 0));
        due("to the last", z.copy(1, 256, -256), 1);
        due("it is there", z.get(LAST) * 10 + z.get(-256), 66);
        z.set(LAST, 7);
        due("from the last", z.copy(-256, 256, 300), 1);
        due("it is there", z.get(555), 7);
        due("the last onto 0", z.copy(LAST, 1, 0), 1);
        due("it is there", z.get(0), 7);
        due("from 0 to the last", z.copy(0, 1, LAST), 1);

        copyTooMany();
    }

    private static void overlapping(int shift) {
        Loom x = new Loom();
        int[] before = {1, 2, -1, 4, -1, -1, 7, 8};
        for (int i = 0; i < before.length; i++) {
            if (before[i] >= 0) {
                x.set(100 + i, before[i]);
            }
        }
        due("shifted by " + shift, x.copy(101, 6, 101 + shift), 1);
        for (int at = 95; at <= 115; at++) {
            int source = at - shift - 100;
            boolean written = source >= 1 && source < 7;
            boolean old = at >= 100 && at < 108;
            int want = written ? before[source] : old ? before[at - 100] : -1;
            due("shifted by " + shift + ", get(" + at + ")", x.get(at), want);
        }
        due("check()", x.check(), 1);
    }

    private static void copyTooMany() {
        says("0, and nothing is done, likewise: there would be too many");
        Loom x = with(2744);
        due("256 up to 3000", x.copy(0, 256, 5000), 1);
        due("3000", x.count(0), 3000);
        unchanged(x, () -> due("one over", x.copy(0, 1, 4000), 0));
        unchanged(x, () -> due("one over, 255 there", x.copy(0, 256, 5001), 0));
        due("256 onto 256", x.copy(1, 256, 5000), 1);
        due("a byte and a gap onto a gap and a byte", x.copy(2743, 2, 4999), 1);
        due("3000", x.count(0), 3000);
        due("it is there", x.run(1, 0), 4999);
        due("gaps onto bytes", x.copy(4000, 3, 0), 1);
        due("2997", x.count(0), 2997);
        unchanged(x, () -> due("four where three have room", x.copy(10, 4, 4000), 0));
        due("three", x.copy(10, 3, 4000), 1);
        due("3000", x.count(0), 3000);
        unchanged(x, () -> due("overlapping, one over", x.copy(2743, 1, 2744), 0));
        due("onto itself", x.copy(2700, 256, 2700), 1);
        due("3000", x.count(0), 3000);
    }

    private static void clear() {
        says("No bytes any more; the start stays: how many there were.");
        Loom x = new Loom();
        due("of none", x.clear(), 0);
        due("no start", x.start(), -1);
        x.set(0, 0);
        x.set(LAST, 1);
        x.begin(1, LAST);
        reading(x, 0, COLON_END, "x");
        tells(x, 0, 1, data(0, "00"), upperHalf("FFFF"), data(0xFFFF, "01"), colon(0, 5, "FFFFFFFF"), COLON_END);
        String told = x.told();
        typeAll(x, COLON_END);
        due("of two", x.clear(), 2);
        due("again", x.clear(), 0);
        due("the start", x.start(), 0xFFFFFFFFL);
        due("bytes, runs, sum", x.count(0) + x.count(1) + x.count(2), 0);
        due("next(0)", x.next(0), -1);
        due("run(0, 0)", x.run(0, 0), -1);
        due("get(0)", x.get(0), -1);
        due("what was told", x.told(), told);
        due("place()", x.place(), 1);
        due("the typed text", x.read(0), 0);
        x = with(3000);
        due("of 3000", x.clear(), 3000);
        due("check()", x.check(), 1);
        due("room again", x.fill(0, 256, 1), 1);
        due("256", x.count(0), 256);
    }

    // Promises 11 to 15

    private static void begin() {
        says("The start becomes an address (way 1) or none (0): 1");
        Loom x = new Loom();
        for (int address : new int[] {0, MOST, LEAST, LAST}) {
            due("begin(1, " + address + ")", x.begin(1, address), 1);
            due("start()", x.start(), address & 0xFFFFFFFFL);
            due("begin(0, " + address + ")", x.begin(0, address), 1);
            due("start()", x.start(), -1);
        }
        due("none, again", x.begin(0, 5), 1);

        says("0, and nothing is done, for another way");
        for (int way : new int[] {-1, 2, LEAST, MOST}) {
            unchanged(x, () -> due("none, way " + way, x.begin(way, 5), 0));
        }
        x.begin(1, 7);
        for (int way : new int[] {-1, 2, LEAST, MOST}) {
            unchanged(x, () -> due("7, way " + way, x.begin(way, 5), 0));
        }
    }

    private static void start() {
        says("The start, as a number from 0 to 2^32 - 1; NONE when there is none.");
        Loom x = new Loom();
        due("none", x.start(), -1);
        x.begin(1, LAST);
        due("2^32 - 1", x.start(), 4294967295L);
        x.begin(1, 0);
        due("0", x.start(), 0);
        x.begin(0, 0);
        due("none again", x.start(), -1);
    }

    private static void count() {
        says("How many bytes (what 0), runs (1) there are, all bytes together (2)");
        Loom x = new Loom();
        due("none", x.count(0) + x.count(1) + x.count(2), 0);
        x.set(0, 0);
        x.set(LAST, 0);
        due("bytes", x.count(0), 2);
        due("runs", x.count(1), 2);
        due("sum", x.count(2), 0);
        x = new Loom();
        for (int i = 0; i < 12; i++) {
            x.fill(i * 250, 250, 255);
        }
        due("the most bytes", x.count(0), 3000);
        due("one run", x.count(1), 1);
        due("the greatest sum", x.count(2), 3000 * 255);
        x = new Loom();
        for (int i = 0; i < 100; i++) {
            x.set(2 * i, i);
        }
        due("runs of one", x.count(1), 100);

        says("characters that were told latest (3)");
        due("none", x.count(3), 0);
        x.clear();
        x.tell(1, 1);
        due("kind 1", x.count(3), 32);
        x.tell(0, 1);
        due("kind 0", x.count(3), 11);
        x.set(1, 1);
        due("the image has changed", x.count(3), 11);

        says("NONE for others");
        for (int what : new int[] {4, -1, LEAST, MOST}) {
            due("count(" + what + ")", x.count(what), -1);
        }
    }

    private static void run() {
        says("The first address (what 0) and the number of bytes (1) of run i");
        Loom x = new Loom();
        x.set(0, 1);
        x.fill(2, 2, 1);
        x.fill(-3, 3, 1);
        long[][] runs = {{0, 1}, {2, 2}, {0xFFFFFFFDL, 3}};
        for (int i = 0; i < 3; i++) {
            due("run(" + i + ", 0)", x.run(i, 0), runs[i][0]);
            due("run(" + i + ", 1)", x.run(i, 1), runs[i][1]);
        }
        due("the longest", with(3000).run(0, 1), 3000);

        says("NONE when there is none such");
        for (int i : new int[] {-1, 3, LEAST, MOST}) {
            due("run(" + i + ", 0)", x.run(i, 0), -1);
            due("run(" + i + ", 1)", x.run(i, 1), -1);
        }
        for (int what : new int[] {-1, 2, LEAST, MOST}) {
            due("run(0, " + what + ")", x.run(0, what), -1);
            due("run(3, " + what + ")", x.run(3, what), -1);
        }
        due("of none at all", new Loom().run(0, 0), -1);
        due("of none at all", new Loom().run(0, 1), -1);
    }

    private static void next() {
        says("The first address with a byte, from one on up to the last one; NONE when there is none.");
        Loom x = new Loom();
        due("of none at all", x.next(0), -1);
        x.set(5, 1);
        x.set(LEAST, 1);
        due("from 0", x.next(0), 5);
        due("from 4", x.next(4), 5);
        due("from itself", x.next(5), 5);
        due("from behind it", x.next(6), 0x80000000L);
        due("from before the sign", x.next(MOST), 0x80000000L);
        due("from behind all", x.next(LEAST + 1), -1);
        due("from the last one, not round", x.next(LAST), -1);
        x.set(LAST, 1);
        due("the last one", x.next(LEAST + 1), 0xFFFFFFFFL);
        due("the last one, from itself", x.next(LAST), 0xFFFFFFFFL);
    }
}
