import java.lang.reflect.Field;

/** No call can bring check() to tell 0, so the rows inside the object are spoiled by hand here. */
public final class HexLoomCheckEdges extends Edges {
    private static final long SPACE = 1L << 32;

    public static void main(String[] args) throws ReflectiveOperationException {
        says("Whether all that is kept of bytes and gaps agrees: 1; it would tell 0.");
        address(0, 0, 1);
        address(0, 9, 1);
        address(0, 10, 0);
        address(0, -1, 0);
        address(1, 9, 0);
        address(1, 8, 0);
        address(2, SPACE - 1, 1);
        address(2, SPACE, 0);
        address(2, 10, 0);
        address(2, -1, 0);
        for (int index = 0; index < 3; index++) {
            value(index, 0, 1);
            value(index, 255, 1);
            value(index, 256, 0);
            value(index, -1, 0);
        }
        size(2, 1);
        size(0, 1);
        size(-1, 0);
        size(3001, 0);
        size(MOST, 0);
        finish();
    }

    private static Object imageOf(HexLoom x) throws ReflectiveOperationException {
        Field image = HexLoom.class.getDeclaredField("image");
        image.setAccessible(true);
        return image.get(x);
    }

    private static Field field(Object image, String name) throws ReflectiveOperationException {
        Field field = image.getClass().getDeclaredField(name);
        field.setAccessible(true);
        return field;
    }

    /** Bytes at 9, 10 and 12. */
    private static HexLoom three() {
        HexLoom x = new HexLoom();
        x.fill(9, 2, 5);
        x.set(12, 5);
        due("check() before", x.check(), 1);
        return x;
    }

    private static void address(int index, long address, int want) throws ReflectiveOperationException {
        HexLoom x = three();
        Object image = imageOf(x);
        ((long[]) field(image, "addresses").get(image))[index] = address;
        due("check() with address " + index + " at " + address, x.check(), want);
    }

    private static void value(int index, int value, int want) throws ReflectiveOperationException {
        HexLoom x = three();
        Object image = imageOf(x);
        ((int[]) field(image, "values").get(image))[index] = value;
        due("check() with byte " + index + " as " + value, x.check(), want);
    }

    private static void size(int size, int want) throws ReflectiveOperationException {
        HexLoom x = three();
        Object image = imageOf(x);
        field(image, "size").setInt(image, size);
        due("check() with size " + size, x.check(), want);
    }
}
