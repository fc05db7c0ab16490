import java.io.ByteArrayOutputStream;
import java.util.ArrayList;
import java.util.List;
import java.util.zip.CRC32;

/** Builds containers with all that the document allows in them: tails, extras, comments, any order. */
final class Container {
    static final class Item {
        final String name;
        final int method;
        final byte[] bytes;
        long size;
        long check;
        int flags = 0;
        boolean zeroHead = false;
        boolean markedTail = false;
        byte[] headExtra = {};
        byte[] directoryExtra = {};
        byte[] comment = {};

        // Known once it is built.
        int head;
        int firstByte;
        int tail;
        int directoryHead;

        Item(String name, int method, byte[] bytes, long size, long check) {
            this.name = name;
            this.method = method;
            this.bytes = bytes;
            this.size = size;
            this.check = check;
        }

        Item tail(boolean zeroInHead, boolean marked) {
            flags |= 8;
            zeroHead = zeroInHead;
            markedTail = marked;
            return this;
        }
    }

    final List<Item> items = new ArrayList<>();
    List<Integer> directoryOrder = new ArrayList<>();
    byte[] comment = {};
    int directory;
    int end;

    private final ByteArrayOutputStream out = new ByteArrayOutputStream();

    static long crc(byte[] bytes) {
        CRC32 crc = new CRC32();
        crc.update(bytes);
        return crc.getValue();
    }

    Item stored(String name, String bytes) {
        byte[] raw = Due.latin(bytes);
        return put(new Item(name, 0, raw, raw.length, crc(raw)));
    }

    Item packed(String name, String bytes, long size, long check) {
        return put(new Item(name, 8, Due.latin(bytes), size, check));
    }

    private Item put(Item item) {
        directoryOrder.add(items.size());
        items.add(item);
        return item;
    }

    byte[] build() {
        out.reset();
        for (Item item : items) {
            buildEntry(item);
        }
        directory = out.size();
        for (int i : directoryOrder) {
            buildDirectoryHead(items.get(i));
        }
        end = out.size();
        number(0x06054B50, 4);
        number(0, 4);
        number(directoryOrder.size(), 2);
        number(directoryOrder.size(), 2);
        number(end - directory, 4);
        number(directory, 4);
        number(comment.length, 2);
        out.writeBytes(comment);
        return out.toByteArray();
    }

    private void buildEntry(Item item) {
        item.head = out.size();
        number(0x04034B50, 4);
        number(45, 2);
        number(item.flags, 2);
        number(item.method, 2);
        number(0x5A5A1234, 4);
        number(item.zeroHead ? 0 : item.check, 4);
        number(item.zeroHead ? 0 : item.bytes.length, 4);
        number(item.zeroHead ? 0 : item.size, 4);
        number(item.name.length(), 2);
        number(item.headExtra.length, 2);
        out.writeBytes(Due.latin(item.name));
        out.writeBytes(item.headExtra);
        item.firstByte = out.size();
        out.writeBytes(item.bytes);
        if ((item.flags & 8) != 0) {
            if (item.markedTail) {
                number(0x08074B50, 4);
            }
            item.tail = out.size();
            number(item.check, 4);
            number(item.bytes.length, 4);
            number(item.size, 4);
        }
    }

    private void buildDirectoryHead(Item item) {
        item.directoryHead = out.size();
        number(0x02014B50, 4);
        number(0x0314, 2);
        number(63, 2);
        number(item.flags, 2);
        number(item.method, 2);
        number(0x12345678, 4);
        number(item.check, 4);
        number(item.bytes.length, 4);
        number(item.size, 4);
        number(item.name.length(), 2);
        number(item.directoryExtra.length, 2);
        number(item.comment.length, 2);
        number(0, 2);
        number(0x0101, 2);
        number(0x81A40000, 4);
        number(item.head, 4);
        out.writeBytes(Due.latin(item.name));
        out.writeBytes(item.directoryExtra);
        out.writeBytes(item.comment);
    }

    private void number(long value, int width) {
        for (int k = 0; k < width; k++) {
            out.write((int) (value >> 8 * k));
        }
    }
}
