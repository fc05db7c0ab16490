import java.nio.charset.StandardCharsets;

/** What the tests share: telling answers that are not due, and short ways to fill a PartBox. */
final class Due {
    interface Act {
        void run();
    }

    private static int wrong = 0;

    private Due() {
    }

    static void is(String what, long got, long want) {
        if (got != want) {
            wrong++;
            System.out.println(what + ": answered " + got + ", due is " + want);
        }
    }

    static void is(String what, byte[] got, byte[] want) {
        is(what + ", length", got.length, want.length);
        for (int i = 0; i < Math.min(got.length, want.length); i++) {
            is(what + ", byte " + i, got[i] & 255, want[i] & 255);
        }
    }

    static void isThrown(String what, Class<? extends RuntimeException> kind, Act act) {
        String got = "nothing";
        try {
            act.run();
        } catch (RuntimeException e) {
            got = e.getClass().getName();
        }
        if (!got.equals(kind.getName())) {
            wrong++;
            System.out.println(what + ": threw " + got + ", due is " + kind.getName());
        }
    }

    static void badIndex(String what, Act act) {
        isThrown(what, IndexOutOfBoundsException.class, act);
    }

    static void badArgument(String what, Act act) {
        isThrown(what, IllegalArgumentException.class, act);
    }

    static void badState(String what, Act act) {
        isThrown(what, IllegalStateException.class, act);
    }

    static void finish() {
        if (wrong != 0) {
            System.out.println(wrong + " answers are not as due");
            System.exit(1);
        }
    }

    static byte[] latin(String text) {
        return text.getBytes(StandardCharsets.ISO_8859_1);
    }

    /** Makes these bytes the row. */
    static void load(PartBox x, byte[] bytes) {
        x.end(0);
        for (int at = 0; at < bytes.length; at += 20) {
            x.feed(word(bytes, at), word(bytes, at + 4), word(bytes, at + 8), word(bytes, at + 12), word(bytes, at + 16));
        }
        x.end(bytes.length);
    }

    private static int word(byte[] bytes, int at) {
        int word = 0;
        for (int i = at; i < at + 4; i++) {
            word = word << 8 | (i < bytes.length ? bytes[i] & 255 : 0);
        }
        return word;
    }

    static byte[] row(PartBox x) {
        byte[] bytes = new byte[x.length()];
        for (int i = 0; i < bytes.length; i++) {
            bytes[i] = (byte) x.byteAt(i);
        }
        return bytes;
    }

    /** Makes this the name. */
    static void call(PartBox x, String name) {
        x.erase();
        byte[] letters = latin(name);
        for (int at = 0; at < letters.length; at += 4) {
            x.type(word(letters, at));
        }
    }

    static int add(PartBox x, String name, String bytes) {
        call(x, name);
        load(x, latin(bytes));
        return x.add();
    }

    static int addPacked(PartBox x, String name, String bytes, int size, int check) {
        call(x, name);
        load(x, latin(bytes));
        return x.addPacked(size, check);
    }

    static String name(PartBox x, int entry) {
        StringBuilder name = new StringBuilder();
        for (int k = 0; k < x.about(entry, 4); k++) {
            name.append((char) x.name(entry, k));
        }
        return name.toString();
    }

    static byte[] part(PartBox x, int entry) {
        byte[] bytes = new byte[x.about(entry, 1)];
        for (int i = 0; i < bytes.length; i++) {
            bytes[i] = (byte) x.part(entry, i);
        }
        return bytes;
    }

    static void entryIs(PartBox x, int entry, String name, int method, String bytes) {
        if (!name(x, entry).equals(name)) {
            wrong++;
            System.out.println("entry " + entry + " is " + name(x, entry) + ", due is " + name);
        }
        is(name + ", method", x.about(entry, 0), method);
        is(name + ", bytes", part(x, entry), latin(bytes));
    }

    static void blameIs(PartBox x, String what, int fault, int place, int entry) {
        is(what + ": blame(0)", x.blame(0), fault);
        is(what + ": blame(1)", x.blame(1), place);
        is(what + ": blame(2)", x.blame(2), entry);
    }

    static void readIs(PartBox x, String what, int limit, int fault, int place, int entry) {
        is(what + ": read(" + limit + ")", x.read(limit), fault);
        blameIs(x, what, fault, place, entry);
    }

    /** Makes a row of n bytes in few calls: the box written, put into itself, doubles each time. */
    static void grow(PartBox x, int n) {
        x.end(0);
        x.feed(1, 2, 3, 4, 5);
        for (int k = 0; k < 40 && x.length() < n; k++) {
            String name = "grow" + k;
            call(x, name);
            // The row was the written box: no more of it is added than can be written beside it.
            x.end(Math.min(x.length(), 65536 - x.length() - 76 - 2 * name.length()));
            x.add();
            x.write();
        }
        while (x.count() > 0) {
            x.remove(0);
        }
        x.end(n);
    }
}
