import java.util.ArrayList;
import java.util.List;

/** Each sentence on what is told, and of the promises 16 to 18, that names a boundary case. */
public final class HexLoomTellEdges extends Edges {
    public static void main(String[] args) {
        cutsOfColons();
        cutsOfSs();
        tell();
        tellTooLong();
        character();
        check();
        finish();
    }

    // Promises 16 to 18, and how an image is told

    private static void cutsOfColons() {
        says("each run from its first address on into as many bytes as are wanted");
        for (int wide = 1; wide <= 32; wide++) {
            for (int many : new int[] {1, wide - 1, wide, wide + 1, 2 * wide}) {
                runOf(0, many, wide);
                runOf(1, many, wide);
            }
        }
        Loom x = with(3);
        x.fill(4, 3, 2);
        tells(x, 0, 32, data(0, "010101"), data(4, "020202"), COLON_END);

        says("kind 0 also where the upper half changes");
        x = new Loom();
        x.fill(0xFFFE, 4, 1);
        tells(x, 0, 32, data(0xFFFE, "0101"), upperHalf("0001"), data(0, "0101"), COLON_END);
        tells(x, 0, 2, data(0xFFFE, "0101"), upperHalf("0001"), data(0, "0101"), COLON_END);
        tells(x, 0, 3, data(0xFFFE, "0101"), upperHalf("0001"), data(0, "0101"), COLON_END);
        tells(x, 1, 32, s(0, "0000"), s(2, "00FFFE01010101"), s(5, "0001"), s(8, "000000"));

        x = new Loom();
        x.fill(0xFFFFFF, 2, 1);
        tells(x, 0, 2, upperHalf("00FF"), data(0xFFFF, "01"), upperHalf("0100"), data(0, "01"), COLON_END);
        tells(x, 1, 2, s(0, "0000"), s(3, "00FFFFFF0101"), s(5, "0001"), s(7, "00000000"));
        x = new Loom();
        x.fill(0xFFFC, 8, 1);
        tells(x, 0, 3, data(0xFFFC, "010101"), data(0xFFFF, "01"), upperHalf("0001"), data(0, "010101"), data(3, "01"),
                COLON_END);

        says("when its upper half is not the one told before (0 at first), a record of type 4 with it, offset 0");
        x = new Loom();
        x.set(0xFFFF, 1);
        tells(x, 0, 1, data(0xFFFF, "01"), COLON_END);
        x.set(0x1FFFE, 2);
        tells(x, 0, 1, data(0xFFFF, "01"), upperHalf("0001"), data(0xFFFE, "02"), COLON_END);
        x.drop(0xFFFF);
        x.set(0x10000, 3);
        x.set(0x3FFFF, 4);
        tells(x, 0, 1, upperHalf("0001"), data(0, "03"), data(0xFFFE, "02"), upperHalf("0003"), data(0xFFFF, "04"),
                COLON_END);
        tells(x, 0, 1, upperHalf("0001"), data(0, "03"), data(0xFFFE, "02"), upperHalf("0003"), data(0xFFFF, "04"),
                COLON_END);
        x = new Loom();
        x.fill(LAST, 1, 0xFF);
        x.set(LEAST, 0);
        tells(x, 0, 32, upperHalf("8000"), data(0, "00"), upperHalf("FFFF"), data(0xFFFF, "FF"), COLON_END);

        says("at the end, with a start, type 5 with it, offset 0; then type 1, offset 0");
        x = new Loom();
        tells(x, 0, 32, COLON_END);
        x.begin(1, 0);
        tells(x, 0, 32, colon(0, 5, "00000000"), COLON_END);
        x.begin(1, LAST);
        tells(x, 0, 32, colon(0, 5, "FFFFFFFF"), COLON_END);
        x.begin(0, LAST);
        tells(x, 0, 32, COLON_END);
    }

    private static void runOf(int kind, int many, int wide) {
        if (many < 1) {
            return;
        }
        Loom x = new Loom();
        x.fill(0xFE, many, 0xA5);
        List<String> records = new ArrayList<>();
        if (kind == 1) {
            records.add(s(0, "0000"));
        }
        int cuts = 0;
        for (int at = 0; at < many; at += wide) {
            String bytes = "A5".repeat(Math.min(wide, many - at));
            records.add(kind == 0 ? data(0xFE + at, bytes) : s(1, String.format("%04X", 0xFE + at) + bytes));
            cuts++;
        }
        if (kind == 1) {
            records.add(s(5, String.format("%04X", cuts)));
        }
        records.add(kind == 0 ? COLON_END : S_END);
        tells(x, kind, wide, records.toArray(new String[0]));
    }

    private static void cutsOfSs() {
        says("Kind 1: S0 with address 0 and no data");
        tells(new Loom(), 1, 32, "S0030000FC", "S5030000FC", "S9030000FC");

        says("the cuts, all by the first type of 1, 2, 3 whose addresses can tell the image's last address and the"
                + " start (0 for none) .. the end, of type 9, 8 or 7 for 1, 2, 3, with the start (0 for none)");
        long[] highest = {0, 0xFFFF, 0x10000, 0xFFFFFF, 0x1000000, 0xFFFFFFFFL};
        int[] types = {1, 1, 2, 2, 3, 3};
        for (int image = -1; image < highest.length; image++) {
            for (int start = -1; start < highest.length; start++) {
                Loom x = new Loom();
                int type = 1;
                String told = null;
                if (image >= 0) {
                    x.set((int) highest[image], 0xEE);
                    type = types[image];
                }
                if (start >= 0) {
                    x.begin(1, (int) highest[start]);
                    type = Math.max(type, types[start]);
                }
                String form = "%0" + 2 * (type + 1) + "X";
                String end = s(10 - type, String.format(form, start < 0 ? 0L : highest[start]));
                if (image < 0) {
                    tells(x, 1, 1, s(0, "0000"), s(5, "0000"), end);
                } else {
                    told = s(type, String.format(form, highest[image]) + "EE");
                    tells(x, 1, 1, s(0, "0000"), told, s(5, "0001"), end);
                }
            }
        }
        Loom x = new Loom();
        x.set(1, 1);
        x.set(0x10000, 2);
        tells(x, 1, 1, s(0, "0000"), s(2, "00000101"), s(2, "01000002"), s(5, "0002"), s(8, "000000"));

        says("S5 with how many they were");
        x = with(257);
        x.tell(1, 1);
        due("257 records of one", x.count(3), 32 + 257 * 13);
        StringBuilder end = new StringBuilder();
        for (int i = x.count(3) - 22; i < 32 + 257 * 13; i++) {
            end.append((char) x.character(i));
        }
        due("the end of 257", end.toString(), " " + s(5, "0101") + " " + S_END);
    }

    private static void tell() {
        says("NONE, and what was told stays, when there is no such kind");
        Loom x = new Loom(MOST);
        x.fill(0xFFF0, 32, 0xAB);
        x.begin(1, 3);
        for (int kind = 0; kind < 2; kind++) {
            int right = kind;
            due("kind " + kind, x.tell(kind, 16) > 0, true);
            for (int other : new int[] {-1, 2, LEAST, MOST}) {
                staysTold(x, () -> due("kind " + other, x.tell(other, 16), -1));
                staysTold(x, () -> due("kind " + other + ", wide 0", x.tell(other, 0), -1));
            }
            says("NONE, and what was told stays, when .. wide is not 1 .. 32");
            for (int wide : new int[] {0, 33, -1, -32, LEAST, MOST}) {
                staysTold(x, () -> due("wide " + wide, x.tell(right, wide), -1));
            }
            due("wide 1", x.tell(kind, 1) > x.tell(kind, 2), true);
            due("wide 32", x.tell(kind, 32) > 0, true);
            due("count(3)", x.count(3), x.tell(kind, 32));
        }
        due("nothing told before, and none now", new Loom().tell(2, 1), -1);
        Loom y = new Loom();
        unchanged(y, () -> due("nothing told before", y.tell(0, 0), -1));
        Loom z = with(300);
        z.tell(0, 32);
        unchanged(z, () -> due("wide 33", z.tell(1, 33), -1));
    }

    private static void staysTold(Loom x, Runnable call) {
        String before = x.told();
        call.run();
        due("what was told", x.told(), before);
        due("count(3)", x.count(3), before.length());
    }

    /** With wide 2, a cut of 2 or 1 bytes has 16 or 14 characters in kind 0, 15 or 13 in kind 1; the rest 11 and 32. */
    private static Loom pairsAndSingles(int pairs, int singles) {
        Loom x = with(2 * pairs);
        for (int i = 0; i < singles; i++) {
            x.set(4000 + 2 * i, 1);
        }
        return x;
    }

    private static void tellTooLong() {
        says("FULL likewise, when it would be more than 12000");
        due("kind 0, the most (all its lengths are odd)", pairsAndSingles(744, 6).tell(0, 2), 11999);
        due("kind 0, two more", pairsAndSingles(745, 5).tell(0, 2), -2);
        due("kind 1, the most", pairsAndSingles(797, 1).tell(1, 2), 12000);
        due("kind 1, one more", pairsAndSingles(791, 8).tell(1, 2), -2);
        due("kind 0, the longest of all", with(3000).tell(0, 1), -2);
        due("kind 1, the longest of all", with(3000).tell(1, 1), -2);
        due("kind 0, 3000 bytes", with(3000).tell(0, 32), 93 * 76 + 60 + 11);
        due("kind 1, 3000 bytes", with(3000).tell(1, 32), 93 * 75 + 59 + 32);

        Loom x = pairsAndSingles(797, 1);
        x.tell(1, 2);
        due("character(11999)", x.character(11999), 'C');
        due("character(12000)", x.character(12000), -1);
        x.set(9000, 1);
        unchanged(x, () -> due("too long, kind 1", x.tell(1, 2), -2));
        unchanged(x, () -> due("too long, kind 0", x.tell(0, 2), -2));
        due("the 12000th stays", x.character(11999), 'C');

        Loom y = pairsAndSingles(744, 6);
        due("kind 0", y.tell(0, 2), 11999);
        due("character(11998)", y.character(11998), 'F');
        due("character(11999)", y.character(11999), -1);
        y.begin(1, 0);
        unchanged(y, () -> due("too long by the start", y.tell(0, 2), -2));
        y.begin(0, 0);
        due("not any more", y.tell(0, 2), 11999);

        Loom z = with(3000);
        unchanged(z, () -> due("nothing told before", z.tell(0, 1), -2));
        due("a short one behind FULL", z.tell(0, 32), 93 * 76 + 60 + 11);

        says("NONE .. when there is no such kind, or wide is not 1 .. 32; FULL likewise");
        due("no kind and too long", z.tell(2, 1), -1);
        due("wide 0 and too long", z.tell(0, 0), -1);
    }

    private static void character() {
        says("Character i of what was told latest; NONE when there is none.");
        Loom x = new Loom();
        due("nothing told", x.character(0), -1);
        due("nothing told", x.character(-1), -1);
        x.tell(1, 1);
        String longer = "S0030000FC S5030000FC S9030000FC";
        for (int i = 0; i < longer.length(); i++) {
            due("character(" + i + ")", x.character(i), longer.charAt(i));
        }
        x.tell(0, 1);
        for (int i = 0; i < longer.length() + 2; i++) {
            due("character(" + i + ")", x.character(i), i < COLON_END.length() ? COLON_END.charAt(i) : -1);
        }
        for (int i : new int[] {-1, 11, LEAST, MOST}) {
            due("character(" + i + ")", x.character(i), -1);
        }
        x.set(0, 1);
        reading(x, 0, data(9, "09"), COLON_END);
        due("the image changes, what was told doesn't", x.told(), COLON_END);
    }

    private static void check() {
        says("Whether all that is kept of bytes and gaps agrees: 1");
        Loom x = new Loom();
        due("none", x.check(), 1);
        x.set(0, 0);
        x.set(LAST, 255);
        due("both ends", x.check(), 1);
        x.copy(0, 256, -256);
        due("behind a copy", x.check(), 1);
        x.clear();
        due("cleared", x.check(), 1);
        Loom full = with(3000);
        due("3000", full.check(), 1);
        full.set(3000, 1);
        full.fill(2900, 200, 1);
        full.copy(0, 256, 2900);
        reading(full, 0, data(2999, "0102"), COLON_END);
        due("3000 and refused calls", full.check(), 1);
        full.drop(0);
        full.drop(2999);
        due("2998", full.check(), 1);
    }
}
