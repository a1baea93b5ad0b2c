import java.util.ArrayList;
import java.util.List;
import java.util.Map;
import java.util.NavigableMap;
import java.util.Random;
import java.util.TreeMap;

/** Mixed runs of calls beside a plain model; the seeds are fixed, so every time is the same. */
public final class HexLoomAgainstModel {
    private static final int RUNS = 500;
    private static final int CALLS = 512;

    private static int wrong = 0;

    public static void main(String[] args) {
        int[] faults = new int[11];
        for (int seed = 1; seed <= RUNS && wrong < 20; seed++) {
            new Runner(seed, faults).go();
        }
        for (int f = 0; f <= 10; f++) {
            if (faults[f] < 20) {
                wrong++;
                System.out.println("the runs are too tame: fault " + f + " came " + faults[f] + " times");
            }
        }
        System.out.println(wrong == 0 ? "the class and the model agree" : wrong + " answers are not as due");
        if (wrong != 0) {
            System.exit(1);
        }
    }

    private static final class Runner {
        private static final int[] WILD = {Integer.MIN_VALUE, Integer.MIN_VALUE + 1, -65536, -257, -256, -2, -1, 0, 1,
            2, 3, 9, 255, 256, 257, 3000, 8000, 12000, 65535, 65536, Integer.MAX_VALUE - 1, Integer.MAX_VALUE};

        private final int seed;
        private final int[] faults;
        private final Random random;
        private final HexLoom x = new HexLoom();
        private final Model m = new Model();
        private final List<Long> centres = new ArrayList<>();
        private int calls = 0;

        Runner(int seed, int[] faults) {
            this.seed = seed;
            this.faults = faults;
            random = new Random(seed);
            long[] edges = {0, 0x10000, 0x20000, 0x1000000, 0x80000000L, 0xFFFFFFFFL, 0xFFFF0000L};
            for (int i = 0; i < 3; i++) {
                centres.add(edges[random.nextInt(edges.length)]);
            }
            centres.add(random.nextLong() & 0xFFFFFFFFL);
        }

        void go() {
            while (calls < CALLS && wrong < 20) {
                step();
            }
        }

        private void due(String call, long got, long want) {
            calls++;
            if (got != want) {
                wrong++;
                System.out.println("seed " + seed + ", call " + calls + ": " + call + " answered " + got
                        + ", due is " + want);
            }
        }

        /** No call may throw or go astray, whatever the number is. */
        private int orWild(int usual) {
            return random.nextInt(40) == 0 ? WILD[random.nextInt(WILD.length)] : usual;
        }

        private int address() {
            long spread = random.nextInt(4) == 0 ? 600 : 40;
            return orWild((int) (centres.get(random.nextInt(centres.size())) + random.nextLong() % spread));
        }

        private int blockLength() {
            switch (random.nextInt(8)) {
                case 0: return 256;
                case 1: return random.nextInt(260) - 1;
                default: return 1 + random.nextInt(40);
            }
        }

        private int byteValue() {
            return random.nextInt(20) == 0 ? random.nextInt(700) - 200 : random.nextInt(256);
        }

        private void step() {
            int a = address();
            int n = orWild(blockLength());
            int v = orWild(byteValue());
            switch (random.nextInt(21)) {
                case 0, 1, 2: due("set(" + a + ", " + v + ")", x.set(a, v), m.fill(a, 1, v)); break;
                case 3: due("drop(" + a + ")", x.drop(a), m.drop(a)); break;
                case 4: due("get(" + a + ")", x.get(a), m.get(a)); break;
                case 5:
                    // Some runs are filled to the brim.
                    if (seed % 3 == 0) {
                        a = random.nextInt(4000) - 500;
                        n = 256 - random.nextInt(10);
                    }
                    due("fill(" + a + ", " + n + ", " + v + ")", x.fill(a, n, v), m.fill(a, n, v));
                    break;
                case 6, 7:
                    int to = address();
                    due("copy(" + a + ", " + n + ", " + to + ")", x.copy(a, n, to), m.copy(a, n, to));
                    break;
                case 8: if (random.nextInt(30) == 0) due("clear()", x.clear(), m.clear()); break;
                case 9:
                    int way = orWild(random.nextInt(4) - 1);
                    due("begin(" + way + ", " + a + ")", x.begin(way, a), m.begin(way, a));
                    break;
                case 10: due("start()", x.start(), m.start); break;
                case 11, 12:
                    int what = orWild(random.nextInt(6) - 1);
                    due("count(" + what + ")", x.count(what), m.count(what));
                    break;
                case 13:
                    int i = orWild(random.nextInt(12) - 1);
                    int which = orWild(random.nextInt(3));
                    due("run(" + i + ", " + which + ")", x.run(i, which), m.run(i, which));
                    break;
                case 14: due("next(" + a + ")", x.next(a), m.next(a)); break;
                case 15: telling(); break;
                case 16: due("check()", x.check(), 1); break;
                case 17: due("place()", x.place(), m.place); break;
                case 18:
                    int at = orWild(random.nextInt(m.told.length() + 10) - 5);
                    boolean there = at >= 0 && at < m.told.length();
                    due("character(" + at + ")", x.character(at), there ? m.told.charAt(at) : -1);
                    break;
                case 19: if (random.nextInt(5) == 0) oddTyping(); break;
                default: reading(); break;
            }
        }

        private void oddTyping() {
            long packed = 0;
            for (int i = 0; i < 8; i++) {
                packed = packed << 8 | (random.nextInt(20) == 0 ? random.nextInt(256) : ":S 0139Ff".charAt(random.nextInt(9)));
            }
            int n = orWild(random.nextInt(11) - 1);
            due("type(" + packed + ", " + n + ")", x.type(packed, n), m.type(packed, n));
        }

        private void telling() {
            int kind = orWild(random.nextInt(2));
            int wide = orWild(1 + random.nextInt(32));
            if (random.nextInt(10) == 0) {
                kind = random.nextInt(5) - 2;
                wide = random.nextInt(36) - 1;
            }
            due("tell(" + kind + ", " + wide + ")", x.tell(kind, wide), m.tell(kind, wide));
            due("count(3)", x.count(3), m.told.length());
            // The characters are looked at as one call, so that runs stay long in other things.
            StringBuilder all = new StringBuilder();
            for (int i = 0; i < x.count(3); i++) {
                all.append((char) x.character(i));
            }
            due("all of character() after tell(" + kind + ", " + wide + ")", m.told.contentEquals(all) ? 1 : 0, 1);
        }

        private void reading() {
            int kind = random.nextInt(2);
            String text = random.nextInt(6) == 0 && m.told.length() > 0 && m.told.length() < 1500
                    ? m.told : new Texts(random, centres).text(kind);
            for (int i = 0; i < text.length(); ) {
                int n = Math.min(1 + random.nextInt(8), text.length() - i);
                long packed = random.nextLong();
                for (int k = 0; k < n; k++) {
                    packed = packed << 8 | text.charAt(i + k);
                }
                long got = x.type(packed, n);
                if (got != m.type(packed, n)) {
                    due("type " + text.substring(i, i + n), got, m.typed.length());
                }
                i += n;
            }
            int asked = random.nextInt(25) == 0 ? 2 : orWild(kind);
            int want = m.read(asked);
            if (want >= 0) {
                faults[want]++;
            }
            due("read(" + asked + ") of " + text, x.read(asked), want);
            due("place() after " + text, x.place(), m.place);
            due("count(0)", x.count(0), m.bytes.size());
            due("count(2)", x.count(2), m.count(2));
        }
    }

    /** Texts that are mostly right, with some faults. */
    private static final class Texts {
        private final Random random;
        private final List<Long> centres;
        private int dataRecords = 0;

        Texts(Random random, List<Long> centres) {
            this.random = random;
            this.centres = centres;
        }

        String text(int kind) {
            StringBuilder text = new StringBuilder();
            int records = random.nextInt(7);
            for (int i = 0; i < records; i++) {
                text.append(kind == 0 ? colon() : s()).append(" ".repeat(1 + random.nextInt(2)));
            }
            if (random.nextInt(12) != 0) {
                text.append(kind == 0 ? colonRecord(1, 0, "") : s(7 + random.nextInt(3)));
            }
            if (random.nextInt(15) == 0) {
                text.append(' ').append(kind == 0 ? colon() : s());
            }
            return random.nextInt(4) == 0 ? spoiled(text.toString()) : text.toString();
        }

        private String spoiled(String text) {
            if (text.isEmpty()) {
                return "x";
            }
            int at = random.nextInt(text.length());
            char[] odd = {':', 'S', ' ', '0', '1', '9', 'A', 'F', 'a', 'f', 'G', 'g', '@', '/', '`', '~', '4', '6'};
            String c = String.valueOf(odd[random.nextInt(odd.length)]);
            switch (random.nextInt(3)) {
                case 0: return text.substring(0, at) + text.substring(at + 1);
                case 1: return text.substring(0, at) + c + text.substring(at);
                default: return text.substring(0, at) + c + text.substring(at + 1);
            }
        }

        private long address() {
            return (centres.get(random.nextInt(centres.size())) + random.nextLong() % 60) & 0xFFFFFFFFL;
        }

        private String data(int n) {
            StringBuilder digits = new StringBuilder();
            for (int i = 0; i < n; i++) {
                digits.append(String.format(random.nextBoolean() ? "%02X" : "%02x", random.nextInt(256)));
            }
            return digits.toString();
        }

        private int some() {
            return random.nextInt(10) == 0 ? random.nextInt(120) : random.nextInt(12);
        }

        private String colon() {
            int type = random.nextInt(3) == 0 ? random.nextInt(7) : 0;
            int[] n = {0, 0, 2, 4, 2, 4, 1};
            switch (type) {
                case 0: return colonRecord(0, (int) address() & 0xFFFF, data(some()));
                case 1: return random.nextInt(4) == 0 ? colonRecord(1, 0, "") : colonRecord(0, 7, "");
                case 4: return colonRecord(4, random.nextInt(3), String.format("%04X", address() >> 16));
                default: return colonRecord(type, random.nextInt(3), data(random.nextInt(9) == 0 ? some() : n[type]));
            }
        }

        private String colonRecord(int type, int offset, String data) {
            String digits = String.format("%02X%04X%02X", data.length() / 2, offset, type) + data;
            return ":" + digits + String.format("%02X", -sum(digits) & 255);
        }

        private String s() {
            return s(random.nextInt(4) == 0 ? random.nextInt(10) : 1 + random.nextInt(3));
        }

        private String s(int type) {
            int[] width = {2, 2, 3, 4, 2, 2, 2, 4, 3, 2};
            boolean bare = type == 5 || type >= 7;
            long address = type == 5 ? dataRecords - (random.nextInt(5) == 0 ? 1 : 0) : address();
            String told = String.format("%016X", address).substring(16 - 2 * width[type]);
            String digits = told + (bare && random.nextInt(12) != 0 ? "" : data(some()));
            if (type >= 1 && type <= 3) {
                dataRecords++;
            }
            String all = String.format("%02X", digits.length() / 2 + 1) + digits;
            return "S" + type + all + String.format("%02X", 255 - (sum(all) & 255));
        }

        private static int sum(String digits) {
            int sum = 0;
            for (int i = 0; i < digits.length(); i += 2) {
                sum += Integer.parseInt(digits.substring(i, i + 2), 16);
            }
            return sum;
        }
    }

    /** What the document says, in its plainest form. */
    private static final class Model {
        private static final long SPACE = 1L << 32;

        private NavigableMap<Long, Integer> bytes = new TreeMap<>();
        private long start = -1;
        private int place = -1;
        private String typed = "";
        private String told = "";

        private static long wide(int address) {
            return Integer.toUnsignedLong(address);
        }

        int type(long characters, int n) {
            if (n < 1 || n > 8 || typed.length() + n > 8000) {
                return -1;
            }
            String more = "";
            for (int i = 0; i < n; i++) {
                int c = (int) (characters >> 8 * i & 255);
                if (c < 32 || c > 126) {
                    return -1;
                }
                more = (char) c + more;
            }
            typed += more;
            return typed.length();
        }

        int drop(int address) {
            Integer was = bytes.remove(wide(address));
            return was == null ? -1 : was;
        }

        int get(int address) {
            return bytes.getOrDefault(wide(address), -1);
        }

        private boolean take(NavigableMap<Long, Integer> changed) {
            if (changed.size() > 3000) {
                return false;
            }
            bytes = changed;
            return true;
        }

        private static boolean block(int address, int n) {
            return n >= 1 && n <= 256 && wide(address) + n <= SPACE;
        }

        int fill(int address, int n, int value) {
            if (!block(address, n) || value < 0 || value > 255) {
                return 0;
            }
            NavigableMap<Long, Integer> changed = new TreeMap<>(bytes);
            for (int i = 0; i < n; i++) {
                changed.put(wide(address) + i, value);
            }
            return take(changed) ? 1 : 0;
        }

        int copy(int from, int n, int to) {
            if (!block(from, n) || !block(to, n)) {
                return 0;
            }
            NavigableMap<Long, Integer> changed = new TreeMap<>(bytes);
            for (int i = 0; i < n; i++) {
                changed.remove(wide(to) + i);
                if (bytes.containsKey(wide(from) + i)) {
                    changed.put(wide(to) + i, bytes.get(wide(from) + i));
                }
            }
            return take(changed) ? 1 : 0;
        }

        int clear() {
            int were = bytes.size();
            bytes = new TreeMap<>();
            return were;
        }

        int begin(int way, int address) {
            if (way == 1) {
                start = wide(address);
            } else if (way == 0) {
                start = -1;
            }
            return way == 0 || way == 1 ? 1 : 0;
        }

        /** First address and length of each run. */
        private List<long[]> runs() {
            List<long[]> runs = new ArrayList<>();
            for (long a : bytes.keySet()) {
                if (!bytes.containsKey(a - 1)) {
                    runs.add(new long[] {a, 0});
                }
                runs.get(runs.size() - 1)[1]++;
            }
            return runs;
        }

        long count(int what) {
            switch (what) {
                case 0: return bytes.size();
                case 1: return runs().size();
                case 2: return bytes.values().stream().mapToInt(v -> v).sum();
                case 3: return told.length();
                default: return -1;
            }
        }

        long run(int i, int what) {
            List<long[]> runs = runs();
            return i < 0 || i >= runs.size() || what < 0 || what > 1 ? -1 : runs.get(i)[what];
        }

        long next(int address) {
            Long found = bytes.ceilingKey(wide(address));
            return found == null ? -1 : found;
        }

        int tell(int kind, int wide) {
            if (kind < 0 || kind > 1 || wide < 1 || wide > 32) {
                return -1;
            }
            List<String> records = kind == 0 ? toldColon(wide) : toldS(wide);
            String all = String.join(" ", records);
            if (all.length() > 12000) {
                return -2;
            }
            told = all;
            return told.length();
        }

        private List<String> toldColon(int wide) {
            List<String> records = new ArrayList<>();
            long upper = 0;
            for (long[] run : runs()) {
                for (long a = run[0], end = run[0] + run[1]; a < end; ) {
                    long behind = Math.min(Math.min(a + wide, end), (a / 65536 + 1) * 65536);
                    if (a / 65536 != upper) {
                        upper = a / 65536;
                        records.add(colon(String.format("02000004%04X", upper)));
                    }
                    records.add(colon(String.format("%02X%04X00", behind - a, a % 65536) + digits(a, behind)));
                    a = behind;
                }
            }
            if (start >= 0) {
                records.add(colon(String.format("04000005%08X", start)));
            }
            records.add(":00000001FF");
            return records;
        }

        private List<String> toldS(int wide) {
            long highest = Math.max(bytes.isEmpty() ? 0 : bytes.lastKey(), Math.max(start, 0));
            int type = highest < 65536 ? 1 : highest < 65536 * 256 ? 2 : 3;
            String form = "%0" + 2 * (type + 1) + "X";
            List<String> records = new ArrayList<>();
            records.add("S0030000FC");
            for (long[] run : runs()) {
                for (long a = run[0]; a < run[0] + run[1]; a += wide) {
                    records.add(s(type, String.format(form, a) + digits(a, Math.min(a + wide, run[0] + run[1]))));
                }
            }
            records.add(s(5, String.format("%04X", records.size() - 1)));
            records.add(s(10 - type, String.format(form, Math.max(start, 0))));
            return records;
        }

        private String digits(long from, long behind) {
            StringBuilder digits = new StringBuilder();
            for (long a = from; a < behind; a++) {
                digits.append(String.format("%02X", bytes.get(a)));
            }
            return digits.toString();
        }

        private static String colon(String digits) {
            return ":" + digits + String.format("%02X", -Texts.sum(digits) & 255);
        }

        private static String s(int type, String digits) {
            String all = String.format("%02X", digits.length() / 2 + 1) + digits;
            return "S" + type + all + String.format("%02X", 255 - Texts.sum(all) & 255);
        }

        // What a text told so far.
        private Map<Long, Integer> put;
        private long textStart;
        private boolean ended;
        private long base;
        private boolean round;
        private int dataRecords;

        int read(int kind) {
            String text = typed.strip();
            typed = "";
            if (kind < 0 || kind > 1) {
                return -1;
            }
            put = new TreeMap<>();
            textStart = -1;
            ended = false;
            base = 0;
            round = false;
            dataRecords = 0;
            String[] records = text.isEmpty() ? new String[0] : text.split(" +");
            for (place = 0; place < records.length; place++) {
                int fault = kind == 0 ? colonFault(records[place]) : sFault(records[place]);
                if (fault != 0) {
                    return fault;
                }
            }
            if (!ended) {
                return 10;
            }
            place = -1;
            bytes.putAll(put);
            start = textStart < 0 ? start : textStart;
            return 0;
        }

        private int colonFault(String record) {
            if (!record.startsWith(":")) {
                return 1;
            }
            if (!record.matches(":[0-9A-Fa-f]*")) {
                return 2;
            }
            if (record.length() % 2 == 0 || record.length() < 11) {
                return 3;
            }
            int[] b = decoded(record.substring(1));
            if (b.length != b[0] + 5) {
                return 3;
            }
            int type = b[3];
            boolean fits = type == 0 || type == 1 && b[0] == 0 || (type == 2 || type == 4) && b[0] == 2
                    || (type == 3 || type == 5) && b[0] == 4;
            if (!fits) {
                return 4;
            }
            if (Texts.sum(record.substring(1)) % 256 != 0) {
                return 5;
            }
            if (ended) {
                return 6;
            }
            if (type == 0) {
                List<Long> where = new ArrayList<>();
                for (int i = 0; i < b[0]; i++) {
                    long offset = b[1] * 256 + b[2] + i;
                    where.add((base + (round ? offset % 65536 : offset)) % SPACE);
                }
                return putAll(where, b, 4);
            }
            long high = b[0] < 2 ? 0 : b[4] * 256L + b[5];
            long low = b[0] < 4 ? 0 : b[6] * 256L + b[7];
            ended = type == 1;
            base = type == 2 ? high * 16 : type == 4 ? high * 65536 : base;
            round = type == 2 || type != 4 && round;
            textStart = type == 3 ? high * 16 + low : type == 5 ? high * 65536 + low : textStart;
            return 0;
        }

        private int sFault(String record) {
            if (!record.startsWith("S")) {
                return 1;
            }
            if (record.length() == 1) {
                return 3;
            }
            if (!record.matches("S[0-9][0-9A-Fa-f]*")) {
                return 2;
            }
            if (record.length() % 2 != 0 || record.length() < 4) {
                return 3;
            }
            int type = record.charAt(1) - '0';
            int[] b = decoded(record.substring(2));
            int width = type == 3 || type == 7 ? 4 : type == 2 || type == 8 ? 3 : 2;
            if (b.length - 1 != b[0] || b[0] < width + 1) {
                return 3;
            }
            int n = b[0] - width - 1;
            if (type == 4 || type == 6 || type >= 5 && n > 0) {
                return 4;
            }
            if (Texts.sum(record.substring(2)) % 256 != 255) {
                return 5;
            }
            if (ended) {
                return 6;
            }
            long address = Long.parseLong(record.substring(4, 4 + 2 * width), 16);
            if (type == 5 && address != dataRecords) {
                return 7;
            }
            if (type >= 7) {
                ended = true;
                textStart = address;
            }
            if (type < 1 || type > 3) {
                return 0;
            }
            dataRecords++;
            List<Long> where = new ArrayList<>();
            for (int i = 0; i < n; i++) {
                where.add(address + i);
            }
            return putAll(where, b, 1 + width);
        }

        private int putAll(List<Long> where, int[] b, int from) {
            for (long a : where) {
                if (a >= SPACE || put.containsKey(a)) {
                    return 8;
                }
            }
            for (int i = 0; i < where.size(); i++) {
                put.put(where.get(i), b[from + i]);
            }
            Map<Long, Integer> all = new TreeMap<>(bytes);
            all.putAll(put);
            return all.size() > 3000 ? 9 : 0;
        }

        private static int[] decoded(String digits) {
            int[] b = new int[digits.length() / 2];
            for (int i = 0; i < b.length; i++) {
                b[i] = Integer.parseInt(digits.substring(2 * i, 2 * i + 2), 16);
            }
            return b;
        }
    }
}
