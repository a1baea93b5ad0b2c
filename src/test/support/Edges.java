/** What the tests of the edges have in common: objects whose calls are counted, records, and answers that are due. */
abstract class Edges {
    static final int LAST = -1;
    static final int LEAST = Integer.MIN_VALUE;
    static final int MOST = Integer.MAX_VALUE;
    static final String COLON_END = ":00000001FF";
    static final String S_END = "S9030000FC";

    private static int wrong = 0;
    private static int answers = 0;
    private static String sentence = "";

    static void finish() {
        System.out.println(wrong == 0 ? answers + " answers at the edges are as due" : wrong + " answers are not as due");
        if (wrong != 0) {
            System.exit(1);
        }
    }

    /** What the document says of the checks that follow, in its words as far as they stand in one place. */
    static void says(String words) {
        sentence = words;
    }

    static void due(String what, Object got, Object want) {
        answers++;
        if (!got.equals(want)) {
            wrong++;
            System.out.println("\"" + sentence + "\": " + what + " answered " + got + ", due is " + want);
        }
    }

    static void due(String what, long got, long want) {
        due(what, (Object) got, (Object) want);
    }

    /** The class, with a count of the calls: what an object answers behind its 512th one is free. */
    static final class Loom {
        private final HexLoom x = new HexLoom();
        private int left;

        Loom(int calls) {
            left = calls;
        }

        Loom() {
            this(512);
        }

        private HexLoom called() {
            left--;
            if (left < 0) {
                throw new IllegalStateException("too many calls on one object at: " + sentence);
            }
            return x;
        }

        int type(long characters, int n) {
            return called().type(characters, n);
        }

        int read(int kind) {
            return called().read(kind);
        }

        int place() {
            return called().place();
        }

        int set(int address, int value) {
            return called().set(address, value);
        }

        int drop(int address) {
            return called().drop(address);
        }

        int get(int address) {
            return called().get(address);
        }

        int fill(int address, int n, int value) {
            return called().fill(address, n, value);
        }

        int copy(int from, int n, int to) {
            return called().copy(from, n, to);
        }

        int clear() {
            return called().clear();
        }

        int begin(int way, int address) {
            return called().begin(way, address);
        }

        long start() {
            return called().start();
        }

        int count(int what) {
            return called().count(what);
        }

        long run(int i, int what) {
            return called().run(i, what);
        }

        long next(int address) {
            return called().next(address);
        }

        int tell(int kind, int wide) {
            return called().tell(kind, wide);
        }

        int character(int i) {
            return called().character(i);
        }

        int check() {
            return called().check();
        }

        /** All addresses with bytes as runs, the bytes (of a large image some), the start, what was told (some). */
        String seen() {
            StringBuilder all = new StringBuilder("start " + start() + ", sum " + count(2));
            int bytes = count(0);
            int runs = count(1);
            all.append(", ").append(bytes).append(" bytes in ").append(runs).append(" runs");
            int step = 1 + bytes / 24;
            for (int i = 0; i < runs; i++) {
                long first = run(i, 0);
                long many = run(i, 1);
                all.append(' ').append(first).append('+').append(many).append(':');
                for (long k = 0; k < many; k += step) {
                    all.append(' ').append(get((int) (first + k)));
                }
                all.append(' ').append(get((int) (first + many - 1)));
            }
            return all.append(", told ").append(someTold()).toString();
        }

        private String someTold() {
            int told = count(3);
            int step = 1 + told / 24;
            StringBuilder all = new StringBuilder(told + " ");
            for (int i = 0; i < told; i += step) {
                all.append((char) character(i));
            }
            return all.append(told == 0 ? "" : (char) character(told - 1)).toString();
        }

        String told() {
            StringBuilder all = new StringBuilder();
            int many = count(3);
            for (int i = 0; i < many; i++) {
                all.append((char) character(i));
            }
            return all.toString();
        }
    }

    static void unchanged(Loom x, Runnable calls) {
        String before = x.seen();
        calls.run();
        due("all other calls", x.seen(), before);
        due("check()", x.check(), 1);
    }

    static long pack(String characters) {
        long packed = 0;
        for (char c : characters.toCharArray()) {
            packed = packed << 8 | c;
        }
        return packed;
    }

    static void typeAll(Loom x, String text) {
        for (int i = 0; i < text.length(); i += 8) {
            String part = text.substring(i, Math.min(i + 8, text.length()));
            x.type(pack(part), part.length());
        }
    }

    static int sum(String digits) {
        int sum = 0;
        for (int i = 0; i < digits.length(); i += 2) {
            sum += Integer.parseInt(digits.substring(i, i + 2), 16);
        }
        return sum;
    }

    static String two(int value) {
        return String.format("%02X", value & 255);
    }

    /** A record of kind 0 with its number of data bytes and its sum. */
    static String colon(int offset, int type, String data) {
        String digits = two(data.length() / 2) + String.format("%04X", offset) + two(type) + data;
        return ":" + digits + two(-sum(digits));
    }

    static String data(int offset, String data) {
        return colon(offset, 0, data);
    }

    static String segment(String digits) {
        return colon(0, 2, digits);
    }

    static String upperHalf(String digits) {
        return colon(0, 4, digits);
    }

    /** A record of kind 1 of a type and what stands behind the number of bytes, with that and the sum. */
    static String s(int type, String digits) {
        String all = two(digits.length() / 2 + 1) + digits;
        return "S" + type + all + two(255 - sum(all));
    }

    static String withWrongSum(String record) {
        int end = record.length() - 2;
        return record.substring(0, end) + two(Integer.parseInt(record.substring(end), 16) + 1);
    }

    static int reading(Loom x, int kind, String... records) {
        typeAll(x, String.join(" ", records));
        return x.read(kind);
    }

    /** A text without a fault. */
    static void takes(Loom x, int kind, String... records) {
        String text = String.join(" ", records);
        due("read(" + kind + ") of " + text, reading(x, kind, records), 0);
        due("place() after " + text, x.place(), -1);
        due("check() after " + text, x.check(), 1);
    }

    static Loom taken(int kind, String... records) {
        Loom x = new Loom();
        takes(x, kind, records);
        return x;
    }

    static void refuses(Loom x, int kind, int fault, int place, String... records) {
        String text = String.join(" ", records);
        typeAll(x, text);
        unchanged(x, () -> due("read(" + kind + ") of " + text, x.read(kind), fault));
        due("place() after " + text, x.place(), place);
    }

    /** A text with a fault, on an object that has bytes, a start, something told and a good read behind it. */
    static void refuses(int kind, int fault, int place, String... records) {
        Loom x = new Loom();
        x.fill(77, 2, 7);
        x.set(LAST, 9);
        x.tell(1, 2);
        x.begin(1, 99);
        reading(x, 0, COLON_END);
        refuses(x, kind, fault, place, records);
    }

    static int faultOf(int kind, String... records) {
        return reading(new Loom(), kind, records);
    }

    /** An object with bytes 1 at 0 .. n - 1. */
    static Loom with(int n) {
        Loom x = new Loom();
        for (int i = 0; i < n; i += 256) {
            x.fill(i, Math.min(256, n - i), 1);
        }
        due("bytes at first", x.count(0), n);
        return x;
    }

    static void tells(Loom x, int kind, int wide, String... records) {
        String want = String.join(" ", records);
        due("tell(" + kind + ", " + wide + ")", x.tell(kind, wide), want.length());
        due("what tell(" + kind + ", " + wide + ") told", x.told(), want);
    }
}
