/**
 * Images of bytes with gaps, in a space of 32 bits, read from and told in two kinds of records,
 * each with its sum. What each call promises stands in the document; README.md says how to use it.
 */
public final class HexLoom {
    public static final int NONE = -1;
    public static final int FULL = -2;

    private static final int MOST_BYTES = 3000;
    private static final int MOST_TYPED = 8000;
    private static final int MOST_TOLD = 12000;
    private static final int LONGEST_BLOCK = 256;
    private static final int WIDEST_RECORD = 32;
    private static final int MOST_PACKED = 8;

    private static final long ADDRESS_MASK = 0xFFFFFFFFL;
    private static final int HALF_MASK = 0xFFFF;
    private static final int BYTE_MASK = 0xFF;

    private static final int COLON_KIND = 0;
    private static final int S_KIND = 1;

    private static final int NO_FAULT = 0;
    private static final int FAULT_MARK = 1;
    private static final int FAULT_DIGIT = 2;
    private static final int FAULT_LENGTH = 3;
    private static final int FAULT_TYPE = 4;
    private static final int FAULT_SUM = 5;
    private static final int FAULT_BEHIND_END = 6;
    private static final int FAULT_NUMBER = 7;
    private static final int FAULT_ADDRESS = 8;
    private static final int FAULT_TOO_MANY = 9;
    private static final int FAULT_NO_END = 10;

    private static final int COLON_DATA = 0;
    private static final int COLON_END = 1;
    private static final int COLON_SEGMENT = 2;
    private static final int COLON_SEGMENT_START = 3;
    private static final int COLON_UPPER_HALF = 4;
    private static final int COLON_START = 5;

    private static final int S_HEADER = 0;
    private static final int S_NUMBER = 5;
    private static final int S_FIRST_END = 7;

    private final Image image;
    private final TypedText typed;
    private final Draft draft;
    private final ColonReader colonReader;
    private final SReader sReader;
    private final Teller teller;
    private long startAddress;
    private int faultPlace;

    public HexLoom() {
        image = new Image();
        typed = new TypedText();
        draft = new Draft();
        colonReader = new ColonReader();
        sReader = new SReader();
        teller = new Teller();
        startAddress = NONE;
        faultPlace = NONE;
    }

    public int type(long characters, int n) {
        return typed.append(characters, n);
    }

    public int read(int kind) {
        int answer = NONE;
        if (kind == COLON_KIND) {
            answer = readRecords(colonReader);
        } else if (kind == S_KIND) {
            answer = readRecords(sReader);
        }
        typed.forget();
        return answer;
    }

    public int place() {
        return faultPlace;
    }

    public int set(int address, int value) {
        return fill(address, 1, value);
    }

    public int drop(int address) {
        return image.remove(unsigned(address));
    }

    public int get(int address) {
        return image.valueAt(unsigned(address));
    }

    public int fill(int address, int n, int value) {
        if (!isBlock(address, n) || value < 0 || value > BYTE_MASK) {
            return 0;
        }
        return image.spread(unsigned(address), n, value) ? 1 : 0;
    }

    public int copy(int from, int n, int to) {
        if (!isBlock(from, n) || !isBlock(to, n)) {
            return 0;
        }
        return image.duplicate(unsigned(from), n, unsigned(to)) ? 1 : 0;
    }

    public int clear() {
        int before = image.size();
        image.forget();
        return before;
    }

    public int begin(int way, int address) {
        if (way != 0 && way != 1) {
            return 0;
        }
        startAddress = way == 1 ? unsigned(address) : NONE;
        return 1;
    }

    public long start() {
        return startAddress;
    }

    public int count(int what) {
        switch (what) {
            case 0:
                return image.size();
            case 1:
                return image.runs();
            case 2:
                return image.total();
            case 3:
                return teller.length();
            default:
                return NONE;
        }
    }

    public long run(int i, int what) {
        int first = image.firstOfRun(i);
        if (first == NONE) {
            return NONE;
        }
        switch (what) {
            case 0:
                return image.addressOf(first);
            case 1:
                return image.lengthOfRun(first);
            default:
                return NONE;
        }
    }

    public long next(int address) {
        return image.addressOf(image.indexFrom(unsigned(address)));
    }

    public int tell(int kind, int wide) {
        if ((kind != COLON_KIND && kind != S_KIND) || wide < 1 || wide > WIDEST_RECORD) {
            return NONE;
        }
        return teller.weave(image, startAddress, kind, wide);
    }

    public int character(int i) {
        return teller.characterAt(i);
    }

    public int check() {
        return image.isSound() ? 1 : 0;
    }

    private static long unsigned(int address) {
        return address & ADDRESS_MASK;
    }

    private static boolean isBlock(int address, int n) {
        return n >= 1 && n <= LONGEST_BLOCK && unsigned(address) + n - 1 <= ADDRESS_MASK;
    }

    /** The fault of the typed text; only a text without one reaches the image and the start. */
    private int readRecords(RecordReader reader) {
        draft.restart();
        reader.restart();
        typed.rewind();
        int number = 0;
        while (number < MOST_TYPED && typed.toNextRecord()) {
            int fault = reader.faultOf(typed, draft, image);
            if (fault != NO_FAULT) {
                faultPlace = number;
                return fault;
            }
            number++;
        }
        if (!draft.ended) {
            faultPlace = number;
            return FAULT_NO_END;
        }
        faultPlace = NONE;
        image.overlay(draft.bytes, draft.more);
        if (draft.start != NONE) {
            startAddress = draft.start;
        }
        return NO_FAULT;
    }

    /** The bytes that are there, in the order of their addresses; what is not listed is a gap. */
    private static final class Image {
        private final long[] addresses;
        private final int[] values;
        private final long[] heldAddresses;
        private final int[] heldValues;
        private int size;

        Image() {
            addresses = new long[MOST_BYTES];
            values = new int[MOST_BYTES];
            heldAddresses = new long[LONGEST_BLOCK];
            heldValues = new int[LONGEST_BLOCK];
            size = 0;
        }

        int size() {
            return size;
        }

        void forget() {
            size = 0;
        }

        /** The index of the first byte whose address is not lower; size when there is none. */
        int indexFrom(long address) {
            int low = 0;
            int high = size;
            while (low < high) {
                int middle = (low + high) / 2;
                if (addresses[middle] < address) {
                    low = middle + 1;
                } else {
                    high = middle;
                }
            }
            return low;
        }

        long addressOf(int index) {
            return index >= 0 && index < size ? addresses[index] : NONE;
        }

        int valueOf(int index) {
            return index >= 0 && index < size ? values[index] : NONE;
        }

        boolean holds(long address) {
            return addressOf(indexFrom(address)) == address;
        }

        int valueAt(long address) {
            int index = indexFrom(address);
            return addressOf(index) == address ? values[index] : NONE;
        }

        int remove(long address) {
            int value = valueAt(address);
            openBlock(address, 1, 0);
            return value;
        }

        boolean spread(long address, int n, int value) {
            int at = openBlock(address, n, n);
            if (at == NONE) {
                return false;
            }
            for (int i = 0; i < n; i++) {
                addresses[at + i] = address + i;
                values[at + i] = value;
            }
            return true;
        }

        /** The source is held aside first, as both blocks may have addresses in common. */
        boolean duplicate(long from, int n, long to) {
            int first = indexFrom(from);
            int many = Math.min(indexFrom(from + n) - first, LONGEST_BLOCK);
            System.arraycopy(addresses, first, heldAddresses, 0, many);
            System.arraycopy(values, first, heldValues, 0, many);
            int at = openBlock(to, n, many);
            if (at == NONE) {
                return false;
            }
            for (int i = 0; i < many; i++) {
                addresses[at + i] = heldAddresses[i] - from + to;
                values[at + i] = heldValues[i];
            }
            return true;
        }

        /**
         * Gives the n addresses from one on as many entries as wanted, for the caller to write:
         * the index of the first, or NONE, and nothing is done, when there would be too many.
         */
        private int openBlock(long address, int n, int wanted) {
            int first = indexFrom(address);
            int behind = indexFrom(address + n);
            int newSize = size - (behind - first) + wanted;
            if (newSize > MOST_BYTES) {
                return NONE;
            }
            System.arraycopy(addresses, behind, addresses, first + wanted, size - behind);
            System.arraycopy(values, behind, values, first + wanted, size - behind);
            size = newSize;
            return first;
        }

        /** Lays another image over this one, which grows by more; from the back, so in place. */
        void overlay(Image other, int more) {
            int mine = size - 1;
            int to = size + more - 1;
            if (to >= MOST_BYTES) {
                return;
            }
            size += more;
            int its = other.size - 1;
            while (its >= 0 && to >= 0) {
                if (mine >= 0 && addresses[mine] > other.addresses[its]) {
                    addresses[to] = addresses[mine];
                    values[to] = values[mine];
                    mine--;
                } else {
                    if (mine >= 0 && addresses[mine] == other.addresses[its]) {
                        mine--;
                    }
                    addresses[to] = other.addresses[its];
                    values[to] = other.values[its];
                    its--;
                }
                to--;
            }
        }

        /** Whether the entry is directly behind the one before it, so in the same run. */
        boolean continuesRun(int index) {
            return index > 0 && index < size && addresses[index] == addresses[index - 1] + 1;
        }

        int runs() {
            int found = 0;
            for (int i = 0; i < size; i++) {
                if (!continuesRun(i)) {
                    found++;
                }
            }
            return found;
        }

        int firstOfRun(int number) {
            int found = 0;
            for (int i = 0; i < size; i++) {
                if (!continuesRun(i)) {
                    if (found == number) {
                        return i;
                    }
                    found++;
                }
            }
            return NONE;
        }

        int lengthOfRun(int first) {
            int behind = first + 1;
            while (behind < size && continuesRun(behind)) {
                behind++;
            }
            return behind - first;
        }

        int total() {
            int sum = 0;
            for (int i = 0; i < size; i++) {
                sum += values[i];
            }
            return sum;
        }

        boolean isSound() {
            if (size < 0 || size > MOST_BYTES) {
                return false;
            }
            long before = -1;
            for (int i = 0; i < size; i++) {
                if (addresses[i] <= before || values[i] < 0 || values[i] > BYTE_MASK) {
                    return false;
                }
                before = addresses[i];
            }
            return before <= ADDRESS_MASK;
        }
    }

    /** The characters that are typed, and the one record of them that is looked at. */
    private static final class TypedText {
        private static final int LOWEST = 32;
        private static final int HIGHEST = 126;

        private final byte[] characters;
        private int length;
        private int first;
        private int behind;
        private int digitsFrom;

        TypedText() {
            characters = new byte[MOST_TYPED];
            length = 0;
            rewind();
        }

        int append(long packed, int n) {
            if (n < 1 || n > MOST_PACKED || n > MOST_TYPED - length) {
                return NONE;
            }
            for (int i = 0; i < n; i++) {
                int character = packedAt(packed, i);
                if (character < LOWEST || character > HIGHEST) {
                    return NONE;
                }
            }
            for (int i = n - 1; i >= 0; i--) {
                characters[length] = (byte) packedAt(packed, i);
                length++;
            }
            return length;
        }

        private static int packedAt(long packed, int i) {
            return (int) (packed >>> (8 * i)) & BYTE_MASK;
        }

        void forget() {
            length = 0;
            rewind();
        }

        void rewind() {
            first = 0;
            behind = 0;
            digitsFrom = 0;
        }

        boolean toNextRecord() {
            first = behind;
            while (first < length && characters[first] == ' ') {
                first++;
            }
            behind = first;
            while (behind < length && characters[behind] != ' ') {
                behind++;
            }
            digitsFrom = behind;
            return first < behind;
        }

        boolean beginsWith(char mark) {
            return first < behind && characters[first] == mark;
        }

        /** What digit character i of the record is, 0 .. 15; NONE for no digit or no character. */
        int digitAt(int i) {
            int at = first + i;
            if (at < first || at >= behind) {
                return NONE;
            }
            int character = characters[at];
            if (character >= '0' && character <= '9') {
                return character - '0';
            }
            if (character >= 'A' && character <= 'F') {
                return character - 'A' + 10;
            }
            if (character >= 'a' && character <= 'f') {
                return character - 'a' + 10;
            }
            return NONE;
        }

        int recordLength() {
            return behind - first;
        }

        /** Takes all from character i of the record on as its bytes: whether all are digits. */
        boolean takeBytesFrom(int i) {
            digitsFrom = i;
            for (int at = i; at < recordLength(); at++) {
                if (digitAt(at) == NONE) {
                    return false;
                }
            }
            return true;
        }

        boolean hasHalfByte() {
            return (recordLength() - digitsFrom) % 2 != 0;
        }

        int bytes() {
            return (recordLength() - digitsFrom) / 2;
        }

        int byteAt(int i) {
            int at = digitsFrom + 2 * i;
            return (digitAt(at) << 4 | digitAt(at + 1)) & BYTE_MASK;
        }

        /** The number that n bytes tell, the higher ones first. */
        long numberAt(int i, int n) {
            long number = 0;
            for (int k = 0; k < n; k++) {
                number = number << 8 | byteAt(i + k);
            }
            return number;
        }

        /** All bytes together, as far as the sum of a record looks at them. */
        int sumOfBytes() {
            int sum = 0;
            for (int i = 0; i < bytes(); i++) {
                sum += byteAt(i);
            }
            return sum & BYTE_MASK;
        }
    }

    /** What a text has told so far, aside from the image, as a later fault undoes all of it. */
    private static final class Draft {
        final Image bytes;
        /** How many of the bytes stand where the image has gaps. */
        int more;
        long start;
        boolean ended;

        Draft() {
            bytes = new Image();
            restart();
        }

        void restart() {
            bytes.forget();
            more = 0;
            start = NONE;
            ended = false;
        }
    }

    /** Reads records of one kind, one after the other, into a draft. */
    private abstract static class RecordReader {
        abstract void restart();

        /** The fault of the record that the text is at; without one, the draft has it then. */
        abstract int faultOf(TypedText text, Draft draft, Image image);

        /** Where data byte i of a record stands; NONE for no address. */
        abstract long addressOfData(long first, int i);

        /** Takes n data bytes, the text's bytes from one on, if they have no fault 8 or 9. */
        int takeData(TypedText text, int from, int n, long first, Draft draft, Image image) {
            int more = 0;
            for (int i = 0; i < n; i++) {
                long address = addressOfData(first, i);
                if (address == NONE || draft.bytes.holds(address)) {
                    return FAULT_ADDRESS;
                }
                if (!image.holds(address)) {
                    more++;
                }
            }
            if (image.size() + draft.more + more > MOST_BYTES) {
                return FAULT_TOO_MANY;
            }
            draft.more += more;
            for (int i = 0; i < n; i++) {
                draft.bytes.spread(addressOfData(first, i), 1, text.byteAt(from + i));
            }
            return NO_FAULT;
        }
    }

    /** Kind 0: n, an offset of two bytes, a type, n data bytes, the sum. */
    private static final class ColonReader extends RecordReader {
        private static final int FRAME = 5;
        private static final int OFFSET_AT = 1;
        private static final int TYPE_AT = 3;
        private static final int DATA_AT = 4;
        /** How many data bytes each type has; -1 where any number will do. */
        private static final int[] DATA_BYTES = {-1, 0, 2, 4, 2, 4};

        private long base;
        private boolean segmented;

        ColonReader() {
            base = 0;
            segmented = false;
        }

        void restart() {
            base = 0;
            segmented = false;
        }

        int faultOf(TypedText text, Draft draft, Image image) {
            int fault = faultOfForm(text);
            if (fault != NO_FAULT) {
                return fault;
            }
            if (draft.ended) {
                return FAULT_BEHIND_END;
            }
            int type = text.byteAt(TYPE_AT);
            if (type == COLON_DATA) {
                long offset = text.numberAt(OFFSET_AT, 2);
                return takeData(text, DATA_AT, text.byteAt(0), offset, draft, image);
            }
            takeOther(type, text, draft);
            return NO_FAULT;
        }

        private static int faultOfForm(TypedText text) {
            if (!text.beginsWith(':')) {
                return FAULT_MARK;
            }
            if (!text.takeBytesFrom(1)) {
                return FAULT_DIGIT;
            }
            int bytes = text.bytes();
            if (text.hasHalfByte() || bytes < FRAME || bytes != text.byteAt(0) + FRAME) {
                return FAULT_LENGTH;
            }
            if (!typeHas(text.byteAt(TYPE_AT), text.byteAt(0))) {
                return FAULT_TYPE;
            }
            return text.sumOfBytes() == 0 ? NO_FAULT : FAULT_SUM;
        }

        private static boolean typeHas(int type, int n) {
            if (type < 0 || type >= DATA_BYTES.length) {
                return false;
            }
            return DATA_BYTES[type] < 0 || DATA_BYTES[type] == n;
        }

        private void takeOther(int type, TypedText text, Draft draft) {
            switch (type) {
                case COLON_END:
                    draft.ended = true;
                    break;
                case COLON_SEGMENT:
                    base = text.numberAt(DATA_AT, 2) * 16;
                    segmented = true;
                    break;
                case COLON_SEGMENT_START:
                    draft.start = text.numberAt(DATA_AT, 2) * 16 + text.numberAt(DATA_AT + 2, 2);
                    break;
                case COLON_UPPER_HALF:
                    base = text.numberAt(DATA_AT, 2) << 16;
                    segmented = false;
                    break;
                case COLON_START:
                    draft.start = text.numberAt(DATA_AT, 4);
                    break;
                default:
                    break;
            }
        }

        long addressOfData(long first, int i) {
            long offset = segmented ? (first + i) & HALF_MASK : first + i;
            return (base + offset) & ADDRESS_MASK;
        }
    }

    /** Kind 1: a type, how many bytes follow, an address, data, the sum. */
    private static final class SReader extends RecordReader {
        private static final int ADDRESS_AT = 1;
        private static final int TYPES = 10;
        /** For types that are not there too, as fault 3 asks for it before fault 4. */
        private static final int[] ADDRESS_BYTES = {2, 2, 3, 4, 2, 2, 2, 4, 3, 2};

        private int dataRecords;

        SReader() {
            dataRecords = 0;
        }

        void restart() {
            dataRecords = 0;
        }

        int faultOf(TypedText text, Draft draft, Image image) {
            int fault = faultOfForm(text);
            if (fault != NO_FAULT) {
                return fault;
            }
            if (draft.ended) {
                return FAULT_BEHIND_END;
            }
            int type = text.digitAt(1);
            if (type == S_HEADER) {
                return NO_FAULT;
            }
            int width = addressBytes(type);
            long address = text.numberAt(ADDRESS_AT, width);
            if (type == S_NUMBER) {
                return address == dataRecords ? NO_FAULT : FAULT_NUMBER;
            }
            if (type >= S_FIRST_END) {
                draft.ended = true;
                draft.start = address;
                return NO_FAULT;
            }
            dataRecords++;
            return takeData(text, ADDRESS_AT + width, dataBytes(text), address, draft, image);
        }

        private static int faultOfForm(TypedText text) {
            if (!text.beginsWith('S')) {
                return FAULT_MARK;
            }
            if (text.recordLength() < 2) {
                return FAULT_LENGTH;
            }
            int type = text.digitAt(1);
            if (type < 0 || type >= TYPES || !text.takeBytesFrom(2)) {
                return FAULT_DIGIT;
            }
            int bytes = text.bytes();
            if (text.hasHalfByte() || bytes == 0 || bytes - 1 != text.byteAt(0)) {
                return FAULT_LENGTH;
            }
            if (dataBytes(text) < 0) {
                return FAULT_LENGTH;
            }
            if (!typeHas(type, dataBytes(text))) {
                return FAULT_TYPE;
            }
            return text.sumOfBytes() == BYTE_MASK ? NO_FAULT : FAULT_SUM;
        }

        /** How many bytes are left for data; below 0 when address and sum have no room. */
        private static int dataBytes(TypedText text) {
            return text.bytes() - 1 - addressBytes(text.digitAt(1)) - 1;
        }

        private static int addressBytes(int type) {
            return type >= 0 && type < ADDRESS_BYTES.length ? ADDRESS_BYTES[type] : 2;
        }

        private static boolean typeHas(int type, int n) {
            if (type == 4 || type == 6) {
                return false;
            }
            return type < S_NUMBER || n == 0;
        }

        long addressOfData(long first, int i) {
            return first + i <= ADDRESS_MASK ? first + i : NONE;
        }
    }

    /** Tells an image in records, and keeps what was told latest. */
    private static final class Teller {
        private final byte[] told;
        private int toldLength;
        private int at;
        private boolean writing;
        private int sum;
        private long upperHalf;

        Teller() {
            told = new byte[MOST_TOLD];
            toldLength = 0;
            at = 0;
            writing = false;
            sum = 0;
            upperHalf = 0;
        }

        int length() {
            return toldLength;
        }

        int characterAt(int i) {
            return i >= 0 && i < toldLength ? told[i] : NONE;
        }

        /** The first pass only measures, as what was told before stays if this is too long. */
        int weave(Image image, long start, int kind, int wide) {
            for (int pass = 0; pass < 2; pass++) {
                writing = pass == 1;
                at = 0;
                if (kind == COLON_KIND) {
                    colonRecords(image, start, wide);
                } else {
                    sRecords(image, start, wide);
                }
                if (at > MOST_TOLD) {
                    return FULL;
                }
            }
            toldLength = at;
            return toldLength;
        }

        private void colonRecords(Image image, long start, int wide) {
            upperHalf = 0;
            int first = 0;
            for (int i = 1; i <= image.size() && at <= MOST_TOLD; i++) {
                boolean halfChanges = (image.addressOf(i) & HALF_MASK) == 0;
                if (i - first == wide || !image.continuesRun(i) || halfChanges) {
                    colonCut(image, first, i - first);
                    first = i;
                }
            }
            if (start != NONE) {
                openColon(4, 0, COLON_START);
                number(start, 4);
                closeColon();
            }
            openColon(0, 0, COLON_END);
            closeColon();
        }

        private void colonCut(Image image, int first, int n) {
            long address = image.addressOf(first);
            if (address >> 16 != upperHalf) {
                upperHalf = address >> 16;
                openColon(2, 0, COLON_UPPER_HALF);
                number(upperHalf, 2);
                closeColon();
            }
            openColon(n, (int) address & HALF_MASK, COLON_DATA);
            data(image, first, n);
            closeColon();
        }

        private void openColon(int n, int offset, int type) {
            mark(':');
            octet(n);
            octet(offset >> 8);
            octet(offset & BYTE_MASK);
            octet(type);
        }

        private void closeColon() {
            octet(-sum & BYTE_MASK);
        }

        private void sRecords(Image image, long start, int wide) {
            long startOrZero = start == NONE ? 0 : start;
            int type = typeFor(Math.max(image.addressOf(image.size() - 1), startOrZero));
            openS(S_HEADER, 0, 2, 0);
            closeS();
            int cuts = 0;
            int first = 0;
            for (int i = 1; i <= image.size() && at <= MOST_TOLD; i++) {
                if (i - first == wide || !image.continuesRun(i)) {
                    openS(type, i - first, type + 1, image.addressOf(first));
                    data(image, first, i - first);
                    closeS();
                    cuts++;
                    first = i;
                }
            }
            openS(S_NUMBER, 0, 2, cuts);
            closeS();
            openS(10 - type, 0, type + 1, startOrZero);
            closeS();
        }

        /** The first data type that can tell an address; its own addresses have type + 1 bytes. */
        private static int typeFor(long highest) {
            if (highest <= 0xFFFFL) {
                return 1;
            }
            return highest <= 0xFFFFFFL ? 2 : 3;
        }

        private void openS(int type, int n, int width, long address) {
            mark('S');
            put('0' + type);
            octet(width + n + 1);
            number(address, width);
        }

        private void closeS() {
            octet(~sum & BYTE_MASK);
        }

        private void mark(char character) {
            if (at > 0) {
                put(' ');
            }
            put(character);
            sum = 0;
        }

        private void data(Image image, int first, int n) {
            for (int i = 0; i < n; i++) {
                octet(image.valueOf(first + i));
            }
        }

        private void number(long value, int bytes) {
            for (int i = bytes - 1; i >= 0; i--) {
                octet((int) (value >> (8 * i)) & BYTE_MASK);
            }
        }

        private void octet(int value) {
            sum += value;
            put(digit(value >> 4 & 15));
            put(digit(value & 15));
        }

        private static int digit(int value) {
            return value < 10 ? '0' + value : 'A' + value - 10;
        }

        private void put(int character) {
            if (writing && at < MOST_TOLD) {
                told[at] = (byte) character;
            }
            at++;
        }
    }
}
