import java.io.ByteArrayInputStream;
import java.io.ByteArrayOutputStream;
import java.io.IOException;
import java.util.zip.CRC32;
import java.util.zip.Inflater;
import java.util.zip.DataFormatException;
import java.util.zip.ZipEntry;
import java.util.zip.ZipInputStream;
import java.util.zip.ZipOutputStream;

/** A container is what java.util.zip takes and makes too: a witness that does not come from the document. */
public final class ZipTest {
    private static final String[] NAMES = {"first.txt", "dir/second.txt", "third"};
    private static final String[] TEXTS = {"", "of some length, of some length, of some length", "\u00FF\u0000\u0080"};

    private ZipTest() {
    }

    public static void main(String[] args) throws IOException, DataFormatException {
        zipReadsWritten();
        readsZips(ZipOutputStream.STORED);
        readsZips(ZipOutputStream.DEFLATED);
        Due.finish();
    }

    private static void zipReadsWritten() throws IOException {
        PartBox x = new PartBox();
        for (int i = 0; i < NAMES.length; i++) {
            Due.add(x, NAMES[i], TEXTS[i]);
        }
        x.write();
        ZipInputStream in = new ZipInputStream(new ByteArrayInputStream(Due.row(x)));
        for (int i = 0; i < NAMES.length; i++) {
            ZipEntry entry = in.getNextEntry();
            Due.is("zip names " + NAMES[i], entry.getName().equals(NAMES[i]) ? 1 : 0, 1);
            Due.is("zip unpacks " + NAMES[i], in.readAllBytes(), Due.latin(TEXTS[i]));
        }
        Due.is("no more", in.getNextEntry() == null ? 1 : 0, 1);
    }

    private static byte[] zip(int method) throws IOException {
        ByteArrayOutputStream bytes = new ByteArrayOutputStream();
        try (ZipOutputStream out = new ZipOutputStream(bytes)) {
            out.setComment("made by java.util.zip");
            for (int i = 0; i < NAMES.length; i++) {
                byte[] text = Due.latin(TEXTS[i]);
                ZipEntry entry = new ZipEntry(NAMES[i]);
                entry.setMethod(method);
                entry.setTime(1_000_000_000_000L);
                entry.setComment("comment " + i);
                entry.setExtra(new byte[] {1, 2, 1, 0, 7});
                if (method == ZipOutputStream.STORED) {
                    CRC32 crc = new CRC32();
                    crc.update(text);
                    entry.setCrc(crc.getValue());
                    entry.setSize(text.length);
                }
                out.putNextEntry(entry);
                out.write(text);
                out.closeEntry();
            }
        }
        return bytes.toByteArray();
    }

    private static void readsZips(int method) throws IOException, DataFormatException {
        PartBox x = new PartBox();
        Due.load(x, zip(method));
        Due.readIs(x, "zip " + method, 65536, 0, PartBox.NONE, PartBox.NONE);
        Due.is("count()", x.count(), NAMES.length);
        for (int i = 0; i < NAMES.length; i++) {
            byte[] text = Due.latin(TEXTS[i]);
            Due.is("name", Due.name(x, i).equals(NAMES[i]) ? 1 : 0, 1);
            Due.is("method", x.about(i, 0), method);
            Due.is("size", x.about(i, 2), text.length);
            Due.is("check", x.about(i, 3), (int) Container.crc(text));
            Due.is("bytes", method == 0 ? Due.part(x, i) : unpack(Due.part(x, i), text.length), text);
        }
    }

    private static byte[] unpack(byte[] packed, int size) throws DataFormatException {
        Inflater inflater = new Inflater(true);
        inflater.setInput(packed);
        byte[] bytes = new byte[size];
        Due.is("unpacked", inflater.inflate(bytes), size);
        return bytes;
    }
}
