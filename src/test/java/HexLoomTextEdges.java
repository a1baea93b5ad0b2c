import java.util.ArrayList;
import java.util.List;

/** Each sentence under "Terms" on the image, texts and their faults that names a boundary case. */
public final class HexLoomTextEdges extends Edges {
    public static void main(String[] args) {
        addressesAndRuns();
        textsAndDigits();
        colonRecords();
        colonBase();
        colonStart();
        sRecords();
        firstRecordWithAFault();
        firstFaultOfARecord();
        faultsOneByOne();
        tooManyRead();
        nothingChangedByAFault();
        readWithoutAFault();
        finish();
    }

    // Terms: the image

    private static void addressesAndRuns() {
        says("ADDRESSES are 32 bits, without sign, told as ints.");
        Loom x = new Loom();
        x.set(LAST, 4);
        x.set(LEAST, 3);
        x.set(MOST - 1, 2);
        x.set(0, 1);
        long[] inOrder = {0, 0x7FFFFFFEL, 0x80000000L, 0xFFFFFFFFL};
        for (int i = 0; i < 4; i++) {
            due("run(" + i + ", 0)", x.run(i, 0), inOrder[i]);
            due("get of run " + i, x.get((int) inOrder[i]), i + 1);
        }
        due("set over the sign", x.set(MOST, 5), 1);
        due("runs joined over the sign", x.run(1, 1), 3);

        says("THE IMAGE has a byte (0 .. 255) at some of them, at most 3000");
        x = with(3000);
        due("set of one more", x.set(LAST, 1), 0);
        due("fill of one more", x.fill(3000, 1, 1), 0);
        due("copy of one more", x.copy(0, 1, 3000), 0);
        due("read of one more", reading(x, 0, data(3000, "01"), COLON_END), 9);
        due("count(0)", x.count(0), 3000);
        due("next(3000)", x.next(3000), -1);

        says("A RUN: addresses one behind the other that all have bytes, as many as there are (address 0 is not behind"
                + " the last one).");
        x = new Loom();
        x.fill(-2, 2, 1);
        x.fill(0, 3, 1);
        due("count(1)", x.count(1), 2);
        due("run(0, 0)", x.run(0, 0), 0);
        due("run(0, 1)", x.run(0, 1), 3);
        due("run(1, 0)", x.run(1, 0), 0xFFFFFFFEL);
        due("run(1, 1)", x.run(1, 1), 2);
        tells(x, 1, 32, s(0, "0000"), s(3, "00000000010101"), s(3, "FFFFFFFE0101"), s(5, "0002"), s(7, "00000000"));
        x = with(7);
        x.drop(3);
        due("a gap of one parts a run", x.count(1), 2);
        x.set(3, 0);
        due("a byte 0 is no gap", x.count(1), 1);
    }

    // Terms: texts and their records

    private static void textsAndDigits() {
        says("A TEXT is a row of RECORDS, blanks between.");
        takes(new Loom(), 0, "", "", data(1, "01"), "", "", COLON_END, "", "");
        takes(new Loom(), 1, "", "", s(1, "000101"), "", "", S_END, "", "");
        refuses(0, 2, 0, data(1, "01") + COLON_END);
        refuses(1, 2, 0, s(1, "000101") + S_END);
        refuses(0, 10, 0, "");
        refuses(1, 10, 0, "   ");

        says("Two digits of 0 .. 9, A .. F, a .. f tell a byte.");
        String digits = "0123456789ABCDEFabcdef";
        for (int kind = 0; kind < 2; kind++) {
            for (char high : digits.toCharArray()) {
                char low = digits.charAt((digits.indexOf(high) * 7 + 3) % digits.length());
                String told = "" + high + low;
                Loom x = taken(kind, kind == 0 ? data(5, told) : s(1, "0005" + told), kind == 0 ? COLON_END : S_END);
                due("get(5) after " + told, x.get(5), Integer.parseInt(told, 16));
            }
        }
        takes(new Loom(), 0, data(0xABCD, "EF").toLowerCase(), COLON_END.toLowerCase());
        takes(new Loom(), 1, "S1" + s(1, "abcdef").substring(2).toLowerCase(), "S9030000fc");

        says("2 a character behind that is no digit of those (the type behind 'S': none of 0 .. 9)");
        everyCharacterEverywhere(0, data(0x1234, "AB"));
        everyCharacterEverywhere(1, s(1, "1234AB"));
    }

    /** At each place of a right record: the mark alone begins it, and behind that only digits don't fail as such. */
    private static void everyCharacterEverywhere(int kind, String record) {
        for (char c = 33; c <= 126; c++) {
            for (int at = 0; at < record.length(); at++) {
                String text = record.substring(0, at) + c + record.substring(at + 1);
                int fault = faultOf(kind, text);
                boolean isDigit = kind == 1 && at == 1 ? c >= '0' && c <= '9' : Character.digit(c, 16) >= 0;
                if (at == 0) {
                    due("read(" + kind + ") of " + text, fault, c == record.charAt(0) ? 10 : 1);
                } else {
                    due("fault 2 of " + text, fault == 2, !isDigit);
                }
            }
        }
    }

    private static void colonRecords() {
        says("a last one, such that all bytes together are a multiple of 256");
        for (int last = 0; last < 256; last++) {
            due("read(0) of :00000000 and " + last, faultOf(0, ":00000000" + two(last)), last == 0 ? 10 : 5);
            due("read(0) of :00000001 and " + last, faultOf(0, ":00000001" + two(last)), last == 255 ? 0 : 5);
        }
        due("many times 256", faultOf(0, data(0xFFFF, "FF".repeat(100)), COLON_END), 0);

        says("Kind 0: ':' and bytes: the number of data bytes, n");
        Loom x = taken(0, data(0, ""), data(7, "05"), COLON_END);
        due("n 0 puts nothing, n 1 one", x.count(0), 1);
        x = taken(0, data(0x0102, "FE".repeat(255)), COLON_END);
        due("n 255, the first", x.run(0, 0), 0x0102);
        due("n 255, how many", x.run(0, 1), 255);
        due("n 255, together", x.count(2), 255 * 254);

        says("Types: 0 data; 1 the end (n 0); 2 a segment (n 2) .. 3 the start by a segment (n 4) .. 4 the upper half"
                + " (n 2) .. 5 the start (n 4)");
        int[] many = {-1, 0, 2, 4, 2, 4};
        for (int type = 0; type < 256; type++) {
            for (int n = 0; n <= 6; n++) {
                boolean right = type == 0 || type <= 5 && many[type] == n;
                int fault = !right ? 4 : type == 1 ? 0 : 10;
                due("read(0), type " + type + ", n " + n, faultOf(0, colon(0, type, "00".repeat(n))), fault);
            }
        }
        takes(new Loom(), 0, colon(0xFFFF, 2, "0000"), colon(1, 4, "0000"), colon(2, 3, "00000000"),
                colon(3, 5, "00000000"), colon(0xFFFF, 1, ""));
    }

    private static void colonBase() {
        says("The base is 0 at first.");
        Loom x = taken(0, data(0, "01"), COLON_END);
        due("get(0)", x.get(0), 1);
        takes(x, 0, upperHalf("0001"), data(0, "02"), COLON_END);
        takes(x, 0, data(0, "03"), COLON_END);
        due("at first, again behind type 4", x.get(0), 3);
        takes(x, 0, segment("0001"), COLON_END);
        takes(x, 0, data(0xFFFF, "0405"), COLON_END);
        due("at first, again behind type 2", x.get(0x10000), 5);
        refuses(x, 0, 10, 1, segment("0007"));
        takes(x, 0, data(0xFFFF, "0607"), COLON_END);
        due("at first, again behind a fault", x.get(0x10000), 7);

        says("Data byte i stands at the base and (offset + i) behind type 4 (or none of both)");
        x = taken(0, data(0xFFFF, "0102"), COLON_END);
        due("none, at 0xFFFF", x.get(0xFFFF), 1);
        due("none, at 0x10000", x.get(0x10000), 2);
        due("none, at 0", x.get(0), -1);
        x = taken(0, upperHalf("0000"), data(0xFFFF, "0102"), COLON_END);
        due("type 4 of 0, at 0x10000", x.get(0x10000), 2);
        x = taken(0, segment("1000"), upperHalf("7FFF"), data(0xFFFF, "0102"), COLON_END);
        due("type 4 behind 2, at 0x80000000", x.get(LEAST), 2);
        due("type 4 behind 2, runs", x.count(1), 1);

        says("and at the base and (offset + i) % 65536 behind type 2");
        x = taken(0, segment("0000"), data(0xFFFF, "0102"), COLON_END);
        due("segment 0, at 0xFFFF", x.get(0xFFFF), 1);
        due("segment 0, at 0", x.get(0), 2);
        x = taken(0, segment("0001"), data(0xFFFE, "010203"), COLON_END);
        due("segment 1, at 0x1000F", x.get(0x1000F), 2);
        due("segment 1, at 0x10", x.get(0x10), 3);
        x = taken(0, upperHalf("FFFF"), segment("FFFF"), data(0xFFFF, "0102"), COLON_END);
        due("the last segment, at 0x10FFEF", x.get(0x10FFEF), 1);
        due("the last segment, at 0xFFFF0", x.get(0xFFFF0), 2);

        says("THE BASE: types 2 and 4 alone tell it, and tell no start");
        x = taken(0, segment("1000"), colon(0, 3, "00020003"), data(0xFFFF, "0102"), COLON_END);
        due("behind a segment and type 3", x.get(0x10000), 2);
        x = taken(0, segment("1000"), colon(0, 5, "00020003"), data(0xFFFF, "0102"), COLON_END);
        due("behind a segment and type 5", x.get(0x10000), 2);
        x = taken(0, upperHalf("1000"), colon(0, 3, "00020003"), data(0xFFFF, "0102"), COLON_END);
        due("behind an upper half and type 3", x.get(0x10010000), 2);
        x = taken(0, upperHalf("1000"), colon(0, 5, "00020003"), data(0xFFFF, "0102"), COLON_END);
        due("behind an upper half and type 5", x.get(0x10010000), 2);
        due("no start by a segment alone", taken(0, segment("1234"), COLON_END).start(), -1);
        due("no start by an upper half alone", taken(0, upperHalf("1234"), COLON_END).start(), -1);

        says("all without what is over 32 bits");
        x = taken(0, upperHalf("FFFF"), data(0xFFFF, "010203"), COLON_END);
        due("the last address", x.get(LAST), 1);
        due("address 0", x.get(0), 2);
        due("address 1", x.get(1), 3);
        x = taken(0, upperHalf("FFFF"), data(0xFFFF, "11".repeat(255)), COLON_END);
        due("over, the most", x.run(0, 1), 254);
        refuses(0, 8, 2, data(0, "01"), upperHalf("FFFF"), data(0xFFFF, "0102"), COLON_END);
        refuses(0, 8, 3, upperHalf("FFFF"), data(0xFFFF, "0102"), upperHalf("0000"), data(0, "01"), COLON_END);
    }

    private static void colonStart() {
        says("3 the start by a segment (n 4): the first two bytes times 16 and the last two together");
        due("the least", taken(0, colon(0, 3, "00000000"), COLON_END).start(), 0);
        due("the most", taken(0, colon(0, 3, "FFFFFFFF"), COLON_END).start(), 0xFFFF0 + 0xFFFF);
        due("both", taken(0, colon(0, 3, "12345678"), COLON_END).start(), 0x12340 + 0x5678);

        says("5 the start (n 4): its four bytes");
        due("the least", taken(0, colon(0, 5, "00000000"), COLON_END).start(), 0);
        due("the most", taken(0, colon(0, 5, "FFFFFFFF"), COLON_END).start(), 0xFFFFFFFFL);
        due("the sign", taken(0, colon(0, 5, "80000001"), COLON_END).start(), 0x80000001L);
        due("the base doesn't matter", taken(0, upperHalf("0001"), colon(0, 5, "00000005"), COLON_END).start(), 5);
    }

    private static void sRecords() {
        says("a last one, such that all bytes, the first too, together are 255 or a multiple of 256 and 255 more");
        for (int last = 0; last < 256; last++) {
            due("read(1) of S9030000 and " + last, faultOf(1, "S9030000" + two(last)), last == 0xFC ? 0 : 5);
            due("read(1) of S903FFFF and " + last, faultOf(1, "S903FFFF" + two(last)), last == 0xFE ? 0 : 5);
        }
        due("many times 256", faultOf(1, s(1, "FFFF" + "FF".repeat(100)), S_END), 0);

        says("an address of 2 bytes (types 0, 1, 5, 9), 3 (2, 8) or 4 (3, 7)");
        int[] width = {2, 2, 3, 4, 2, 2, 2, 4, 3, 2};
        for (int type = 0; type < 10; type++) {
            for (int n = 0; n <= 6; n++) {
                int data = n - width[type];
                boolean none = type == 4 || type == 6;
                boolean bare = type == 5 || type >= 7;
                int fault = data < 0 ? 3 : none || bare && data > 0 ? 4 : type >= 7 ? 0 : 10;
                due("read(1), type " + type + ", n " + (n + 1), faultOf(1, s(type, "00".repeat(n))), fault);
            }
        }

        says("0 a header, whose data don't matter");
        Loom x = taken(1, s(0, "0000"), s(0, "FFFF" + "5A".repeat(252)), s(5, "0000"), S_END);
        due("count(0)", x.count(0), 0);

        says("1, 2, 3 data from the address on");
        x = taken(1, s(1, "FFFF0102"), s(2, "FFFFFF0304"), s(3, "FFFFFFFE0506"), S_END);
        due("type 1 over its last address", x.get(0x10000), 2);
        due("type 2 over its last address", x.get(0x1000000), 4);
        due("type 3 up to the last one", x.get(LAST), 6);
        due("none round to 0", x.get(0), -1);
        due("the most data of type 1", taken(1, s(1, "0000" + "01".repeat(252)), S_END).count(0), 252);
        due("the most data of type 3", taken(1, s(3, "FFFFFF06" + "01".repeat(250)), S_END).run(0, 0), 0xFFFFFF06L);
        due("no data", taken(1, s(1, "0000"), s(2, "000000"), s(3, "00000000"), s(5, "0003"), S_END).count(0), 0);

        says("5 how many records with data (types 1 to 3) came before, as its address");
        takes(new Loom(), 1, s(5, "0000"), s(1, "000001"), s(0, "0000"), s(5, "0001"), s(2, "00000101"),
                s(3, "0000000201"), s(5, "0003"), s(5, "0003"), S_END);
        refuses(1, 7, 0, s(5, "0001"), S_END);
        refuses(1, 7, 1, s(1, "000001"), s(5, "0000"), S_END);
        refuses(1, 7, 1, s(1, "000001"), s(5, "0002"), S_END);
        refuses(1, 7, 1, s(1, "000001"), s(5, "0101"), S_END);
        refuses(1, 7, 2, s(1, "000001"), s(0, "0000"), s(5, "0002"), S_END);
        x = taken(1, s(1, "000001"), s(5, "0001"), S_END);
        takes(x, 1, s(5, "0000"), S_END);
        refuses(x, 1, 10, 1, s(1, "000001"));
        takes(x, 1, s(5, "0000"), S_END);

        says("7, 8, 9 the end, its address the start");
        due("type 9, the most", taken(1, s(9, "FFFF")).start(), 0xFFFF);
        due("type 8, the most", taken(1, s(8, "FFFFFF")).start(), 0xFFFFFF);
        due("type 7, the most", taken(1, s(7, "FFFFFFFF")).start(), 0xFFFFFFFFL);
        due("type 9, the least", taken(1, s(9, "0000")).start(), 0);
    }

    // Terms: the faults of a text

    /** Records that each have one fault, behind one that puts a byte at 5. */
    private static List<String> faultyRecords(int kind) {
        List<String> all = new ArrayList<>();
        if (kind == 0) {
            all.addAll(List.of("1x", ":0G", ":00", colon(0, 6, ""), withWrongSum(COLON_END), data(4, "0102")));
        } else {
            all.addAll(List.of("1x", "S1G", "S1", s(4, "0000"), withWrongSum(S_END), s(5, "0000"), s(1, "00040102")));
        }
        return all;
    }

    private static void firstRecordWithAFault() {
        says("FAULTS of a text: the first record that has one");
        int[][] faults = {{1, 2, 3, 4, 5, 8}, {1, 2, 3, 4, 5, 7, 8}};
        for (int kind = 0; kind < 2; kind++) {
            List<String> faulty = faultyRecords(kind);
            String good = kind == 0 ? data(5, "05") : s(1, "000505");
            String end = kind == 0 ? COLON_END : S_END;
            for (int i = 0; i < faulty.size(); i++) {
                for (String other : faulty) {
                    refuses(kind, faults[kind][i], 1, good, faulty.get(i), other, end);
                }
                refuses(kind, faults[kind][i], 1, good, faulty.get(i));
                refuses(kind, faults[kind][i] > 5 ? 6 : faults[kind][i], 2, good, end, faulty.get(i));
            }
        }
    }

    private static void firstFaultOfARecord() {
        says("the first of these: 1 .. 2");
        refuses(0, 1, 0, "x:G");
        refuses(1, 1, 0, "xSG");
        says("the first of these: 1 .. 3");
        refuses(0, 1, 0, "0");
        refuses(1, 1, 0, "0");
        says("the first of these: 1 .. 6");
        refuses(0, 1, 1, COLON_END, "x");
        refuses(1, 1, 1, S_END, "x");
        says("the first of these: 2 .. 3");
        refuses(0, 2, 0, ":G");
        refuses(0, 2, 0, ":00000001FFg");
        refuses(1, 2, 0, "SA");
        refuses(1, 2, 0, "S9030000FCG");
        refuses(1, 2, 0, "S9G");
        says("the first of these: 2 .. 4");
        refuses(0, 2, 0, ":00000006/A");
        refuses(1, 2, 0, "S40300/0FC");
        says("the first of these: 2 .. 6");
        refuses(0, 2, 1, COLON_END, ":0000000:FF");
        refuses(1, 2, 1, S_END, "S:030000FC");
        says("the first of these: 3 .. 4");
        refuses(0, 3, 0, ":01000006F9");
        refuses(0, 3, 0, ":00000006FA0");
        refuses(1, 3, 0, "S4040000FB");
        refuses(1, 3, 0, "S5030000000FC");
        refuses(1, 3, 0, s(6, "00"));
        says("the first of these: 3 .. 6");
        refuses(0, 3, 1, COLON_END, ":00000001F");
        refuses(1, 3, 1, S_END, "S9030000F");
        says("the first of these: 4 .. 5");
        refuses(0, 4, 0, withWrongSum(colon(0, 6, "")));
        refuses(0, 4, 0, withWrongSum(colon(0, 1, "00")));
        refuses(1, 4, 0, withWrongSum(s(6, "0000")));
        refuses(1, 4, 0, withWrongSum(s(9, "000000")));
        says("the first of these: 4 .. 6");
        refuses(0, 4, 1, COLON_END, colon(0, 6, ""));
        refuses(1, 4, 1, S_END, s(4, "0000"));
        says("the first of these: 4 .. 7");
        refuses(1, 4, 0, s(5, "000100"));
        says("the first of these: 5 .. 6");
        refuses(0, 5, 1, COLON_END, withWrongSum(COLON_END));
        refuses(1, 5, 1, S_END, withWrongSum(S_END));
        says("the first of these: 5 .. 7");
        refuses(1, 5, 0, withWrongSum(s(5, "0001")));
        says("the first of these: 5 .. 8");
        refuses(0, 5, 1, data(5, "05"), withWrongSum(data(5, "05")));
        refuses(1, 5, 0, withWrongSum(s(3, "FFFFFFFF0102")));
        says("the first of these: 6 .. 7");
        refuses(1, 6, 1, S_END, s(5, "0001"));
        says("the first of these: 6 .. 8");
        refuses(0, 6, 2, data(5, "05"), COLON_END, data(5, "05"));
        refuses(1, 6, 1, S_END, s(3, "FFFFFFFF0102"));
        says("the first of these: 5 .. 9, 6 .. 9");
        refuses(with(3000), 0, 5, 0, withWrongSum(data(3000, "01")));
        refuses(with(3000), 0, 6, 1, COLON_END, data(3000, "01"));
        refuses(with(3000), 1, 6, 1, S_END, s(1, "0BB801"));
        says("the first of these: 8 .. 9");
        refuses(with(2999), 0, 8, 1, data(3000, "01"), data(2999, "0102"), COLON_END);
        refuses(with(2999), 0, 8, 1, data(3000, "01"), data(3000, "0102"), COLON_END);
        refuses(with(2999), 1, 8, 1, s(1, "0BB801"), s(1, "0BB70102"), S_END);
        refuses(with(3000), 1, 8, 0, s(3, "FFFFFFFE010203"), S_END);
        says("and at last, at the text's end: 10 there was no end");
        refuses(0, 8, 1, data(5, "05"), data(5, "05"));
        refuses(1, 7, 0, s(5, "0001"));
        refuses(with(3000), 0, 9, 0, data(3000, "01"));
        refuses(0, 10, 1, data(5, "05"));
        refuses(1, 10, 3, s(1, "0000"), s(5, "0001"), s(0, "0000"));
    }

    private static void faultsOneByOne() {
        says("1 it does not begin with ':' (kind 0) or 'S' (kind 1)");
        refuses(0, 1, 0, S_END);
        refuses(1, 1, 0, COLON_END);
        refuses(1, 1, 0, "s9030000FC");
        refuses(0, 1, 0, ";00000001FF");

        says("3 kind 0: an odd number of digits, fewer than 5 bytes, or not 5 more than the first one tells");
        refuses(0, 3, 0, ":");
        for (int digits = 1; digits < 10; digits++) {
            refuses(0, 3, 0, COLON_END.substring(0, 1 + digits));
        }
        refuses(0, 3, 0, ":00000001FF0");
        refuses(0, 3, 0, ":00000001FF00");
        refuses(0, 3, 0, ":01000000FF");
        refuses(0, 3, 0, ":0000000000FF");
        refuses(0, 3, 0, ":FF00000001");

        says("kind 1: no type");
        refuses(1, 3, 0, "S");
        refuses(1, 3, 1, s(0, "0000"), "S", S_END);
        says("an odd number of digits behind it");
        refuses(1, 3, 0, "S90");
        refuses(1, 3, 0, "S9030000F");
        refuses(1, 3, 0, "S9030000FC0");
        says("no byte");
        for (int type = 0; type < 10; type++) {
            refuses(1, 3, 0, "S" + type);
        }
        says("not as many behind the first one as that tells");
        refuses(1, 3, 0, "S9020000FD");
        refuses(1, 3, 0, "S9040000FB");
        refuses(1, 3, 0, "S9FF0000FB");
        refuses(1, 3, 0, "S9000000FF");
        says("or so few that an address (of 2 bytes for types that are not there) and the sum have no room");
        refuses(1, 3, 0, "S900");
        refuses(1, 3, 0, "S901FE");
        refuses(1, 3, 0, "S400");
        refuses(1, 3, 0, "S601FE");
        int[] width = {2, 2, 3, 4, 2, 2, 2, 4, 3, 2};
        for (int type = 0; type < 10; type++) {
            refuses(1, 3, 0, s(type, "00".repeat(width[type] - 1)));
        }
        refuses(1, 4, 0, s(4, "0000"));
        refuses(1, 4, 0, s(6, "0000"));

        says("6 it comes behind an end");
        refuses(0, 6, 1, COLON_END, COLON_END);
        refuses(0, 6, 1, COLON_END, data(5, ""));
        refuses(0, 6, 2, data(5, "05"), COLON_END, colon(0, 5, "00000001"));
        for (int end = 7; end < 10; end++) {
            refuses(1, 6, 1, s(end, "00000000".substring(0, 2 * width[end])), s(0, "0000"));
        }
        refuses(1, 6, 1, S_END, S_END);
        Loom x = taken(0, COLON_END);
        takes(x, 0, data(5, "05"), COLON_END);

        says("8 a byte would stand where the text put one before");
        for (int at = 3; at <= 9; at++) {
            int fault = at >= 4 && at <= 7 ? 8 : 0;
            due("kind 0, 5 .. 7 and two from " + at, faultOf(0, data(5, "050607"), data(at, "0102"), COLON_END), fault);
            String second = s(2, "00000" + at + "0102");
            due("kind 1, 5 .. 7 and two from " + at, faultOf(1, s(1, "0005050607"), second, S_END), fault);
        }
        due("n 0 where one was put", faultOf(0, data(5, "05"), data(5, ""), COLON_END), 0);
        refuses(0, 8, 2, data(0x15, "05"), segment("0001"), data(5, "06"), COLON_END);
        refuses(0, 8, 1, data(5, "05"), data(5, "05"), COLON_END);
        x = with(9);
        takes(x, 0, data(5, "05"), COLON_END);
        due("one that was there is none of the text's", x.get(5), 5);
        takes(x, 0, data(5, "06"), COLON_END);
        due("one of an earlier text neither", x.get(5), 6);
        refuses(x, 0, 10, 1, data(5, "07"));
        takes(x, 0, data(5, "08"), COLON_END);
        due("one of a refused text neither", x.get(5), 8);

        says("or, in kind 1, at no address, as it is over 32 bits");
        refuses(1, 8, 0, s(3, "FFFFFFFF0102"), S_END);
        refuses(1, 8, 1, s(1, "000001"), s(3, "FFFFFF07" + "01".repeat(250)), S_END);
        takes(new Loom(), 1, s(3, "FFFFFFFF01"), S_END);
        takes(new Loom(), 1, s(3, "FFFFFFFF"), S_END);
    }

    private static void tooManyRead() {
        says("9 the image would have too many bytes, if all that the text told so far, this record too, stood in it");
        Loom x = with(2998);
        takes(x, 0, data(2998, "0203"), COLON_END);
        due("3000", x.count(0), 3000);
        refuses(x, 0, 9, 0, data(3000, "01"), COLON_END);
        refuses(x, 1, 9, 0, s(1, "0BB801"), S_END);
        takes(x, 0, data(3000, ""), COLON_END);
        takes(x, 0, data(2998, "0405"), COLON_END);
        due("over those that were there", x.get(2999), 5);

        x = with(2998);
        refuses(x, 0, 9, 0, data(2998, "010203"), COLON_END);
        refuses(x, 0, 9, 1, data(2998, "0102"), data(4000, "03"), COLON_END);
        refuses(x, 1, 9, 2, s(1, "0BB601"), s(1, "0FA002"), s(1, "1FA003"), s(1, "2FA004"), S_END);
        takes(x, 1, s(1, "0BB601"), s(1, "0FA002"), s(1, "000003"), s(1, "000104"), S_END);
        due("3000", x.count(0), 3000);
        due("the last one put", x.get(1), 4);

        x = with(2999);
        refuses(x, 0, 9, 0, data(2998, "010203"), COLON_END);
        takes(x, 0, data(2998, "0102"), COLON_END);
        due("one over another, one more", x.count(0), 3000);

        says("9, and a text whose own bytes are too many");
        x = new Loom(MOST);
        String[] records = new String[13];
        for (int i = 0; i < 12; i++) {
            records[i] = data(i * 250, "11".repeat(i == 11 ? 251 : 250));
        }
        records[12] = COLON_END;
        refuses(x, 0, 9, 11, records);
        records[11] = data(11 * 250, "11".repeat(250));
        takes(x, 0, records);
        due("3000 of a text", x.count(0), 3000);
        takes(x, 0, records);
        due("the same 3000 again", x.count(0), 3000);
    }

    private static void nothingChangedByAFault() {
        says("With a fault nothing is changed.");
        String[][] puts = {{data(77, "55"), data(200, "66"), colon(0, 5, "00001234")}, {s(1, "004D55"), s(1, "00C866")}};
        for (int kind = 0; kind < 2; kind++) {
            List<String> faulty = faultyRecords(kind);
            for (int i = 0; i < faulty.size(); i++) {
                List<String> all = new ArrayList<>(List.of(puts[kind]));
                all.add(kind == 0 ? data(5, "05") : s(1, "000505"));
                int place = all.size();
                all.add(faulty.get(i));
                all.add(kind == 0 ? COLON_END : S_END);
                int[] faults = kind == 0 ? new int[] {1, 2, 3, 4, 5, 8} : new int[] {1, 2, 3, 4, 5, 7, 8};
                refuses(kind, faults[i], place, all.toArray(new String[0]));
            }
        }
        refuses(0, 6, 4, data(77, "55"), data(200, "66"), colon(0, 5, "00001234"), COLON_END, COLON_END);
        refuses(1, 6, 3, s(1, "004D55"), s(1, "00C866"), s(9, "1234"), S_END);
        refuses(with(2999), 0, 9, 2, colon(0, 3, "00001234"), data(2998, "5566"), data(4000, "77"), COLON_END);
        refuses(0, 10, 3, data(77, "55"), data(200, "66"), colon(0, 5, "00001234"));
        refuses(1, 10, 2, s(1, "004D55"), s(1, "00C866"));
    }

    /** All texts of bytes at some of 10 .. 13, over all images of bytes at some of them. */
    private static void layersOver() {
        for (int image = 0; image < 16; image++) {
            for (int text = 0; text < 16; text++) {
                Loom x = new Loom();
                StringBuilder records = new StringBuilder();
                for (int i = 0; i < 4; i++) {
                    if ((image >> i & 1) == 1) {
                        x.set(10 + i, 20 + i);
                    }
                    if ((text >> 3 - i & 1) == 1) {
                        records.append(data(13 - i, two(0x53 - i))).append(' ');
                    }
                }
                takes(x, 0, records + COLON_END);
                for (int i = 0; i < 4; i++) {
                    int before = (image >> i & 1) == 1 ? 20 + i : -1;
                    int want = (text >> i & 1) == 1 ? 0x50 + i : before;
                    due("image " + image + ", text " + text + ", get(" + (10 + i) + ")", x.get(10 + i), want);
                }
                due("image " + image + ", text " + text + ", count(0)", x.count(0), Integer.bitCount(image | text));
            }
        }
    }

    private static void readWithoutAFault() {
        says("Otherwise the text's bytes stand in the image, over those that were there");
        Loom x = new Loom();
        x.fill(10, 3, 9);
        x.set(0, 8);
        x.set(LAST, 7);
        takes(x, 0, upperHalf("FFFF"), data(0xFFFE, "0102"), upperHalf("0000"), data(0, "03"), data(9, "0405"),
                data(12, "0607"), COLON_END);
        int[] at = {-2, -1, 0, 9, 10, 11, 12, 13};
        int[] due = {1, 2, 3, 4, 5, 9, 6, 7};
        for (int i = 0; i < at.length; i++) {
            due("get(" + at[i] + ")", x.get(at[i]), due[i]);
        }
        due("count(0)", x.count(0), at.length);
        due("count(1)", x.count(1), 3);
        layersOver();

        says("and the start becomes that of the last record that tells one, if any does");
        due("none before, none told", x.start(), -1);
        x.begin(1, 42);
        takes(x, 0, COLON_END);
        due("one before, none told", x.start(), 42);
        takes(x, 0, colon(0, 5, "00000007"), colon(0, 3, "00010002"), COLON_END);
        due("type 3 behind type 5", x.start(), 18);
        takes(x, 0, colon(0, 3, "00010002"), colon(0, 5, "00000007"), data(99, "01"), COLON_END);
        due("type 5 behind type 3", x.start(), 7);
        takes(x, 1, S_END);
        due("0 is a start", x.start(), 0);
    }
}
