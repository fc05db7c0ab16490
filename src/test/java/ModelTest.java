import java.util.ArrayList;
import java.util.Arrays;
import java.util.Collections;
import java.util.List;
import java.util.Random;
import java.util.TreeMap;
import java.util.function.Supplier;

/** Runs of calls at the edges of all that they take, and containers with bytes altered, must answer as the model does. */
public final class ModelTest {
    private static final String[] NAMES = {"a", "A", "b", "a/b", "A/B", ".", "..", "a/..", "a\\b", "", "x.y", "X.Y",
        "...", "q", "/q", "long/name/of/many/pieces", "abcdefgh", "z", "n".repeat(64), "N".repeat(63)};
    private static final int[] TELLING = {0, 1, 2, 3, 4, 5, 6, 7, 8, 9, 20, 31, 46, 47, 50, 75, 80, 92, 97, 127, 128, 255};
    private static final int[] LETTERS = {0, 0, 0, 1, 32, 33, 46, 47, 65, 90, 92, 97, 97, 98, 122, 126, 127, 128, 255};

    private static final TreeMap<String, Integer> seen = new TreeMap<>();
    private static int run;

    private final PartBox x = new PartBox();
    private final Model model = new Model();
    private final Random random;

    private ModelTest(int seed) {
        random = new Random(seed);
    }

    public static void main(String[] args) {
        // The seeds are fixed, so that each time the same calls are made.
        for (run = 0; run < 600; run++) {
            new ModelTest(run).runOfCalls();
        }
        for (run = 0; run < 15000; run++) {
            new ModelTest(run).alteredContainers();
        }
        enoughWasSeen();
        Due.finish();
    }

    /** A run that never comes to an edge tells nothing of it. */
    private static void enoughWasSeen() {
        for (int fault = 0; fault <= 11; fault++) {
            often("fault " + fault);
        }
        for (String call : new String[] {"end", "alter", "type", "add", "addPacked", "about", "read", "blame"}) {
            often(call + " IllegalArgumentException");
        }
        for (String call : new String[] {"alter", "byteAt", "remove", "move", "about", "name", "part"}) {
            often(call + " IndexOutOfBoundsException");
        }
        for (String call : new String[] {"feed", "type", "add", "addPacked", "write"}) {
            often(call + " IllegalStateException");
        }
        often("64 entries");
        often("a full row");
        often("a full box");
    }

    private static void often(String what) {
        Due.isTrue(what + " was seen often enough, not just " + seen.getOrDefault(what, 0) + " times",
                seen.getOrDefault(what, 0) >= 50);
    }

    private static void see(String what) {
        seen.merge(what, 1, Integer::sum);
    }

    private static Object answer(Supplier<Object> call) {
        try {
            return call.get();
        } catch (RuntimeException e) {
            return e.getClass().getSimpleName();
        }
    }

    private static Object none(Due.Act act) {
        act.run();
        return 0;
    }

    private static void same(String call, Object got, Object want) {
        if (!got.equals(want)) {
            Due.tell("run " + run + ", " + call + " answered " + got + ", due is " + want);
        }
        if (want instanceof String) {
            see(call + " " + want);
        }
    }

    private static void sameBytes(String what, byte[] got, byte[] want) {
        if (!Arrays.equals(got, want)) {
            Due.is("run " + run + ", " + what, got, want);
        }
    }

    private void runOfCalls() {
        // Some runs are long ones of small things; the others come to full rows and boxes early.
        if (run % 3 == 0) {
            fillRow();
        }
        if (run % 3 == 1) {
            fillBox();
        }
        for (int step = 0; step < 100; step++) {
            call();
            if (step % 20 == 19) {
                sameState();
            }
        }
    }

    private int edge(int n) {
        return switch (random.nextInt(12)) {
            case 0 -> -1;
            case 1 -> n;
            case 2 -> n + 1;
            case 3 -> Integer.MIN_VALUE;
            case 4 -> Integer.MAX_VALUE;
            case 5, 6 -> 0;
            case 7, 8 -> n - 1;
            default -> random.nextInt(Math.max(1, n));
        };
    }

    private int word(int[] bytes) {
        int word = 0;
        for (int k = 0; k < 4; k++) {
            word = word << 8 | bytes[random.nextInt(bytes.length)];
        }
        return word;
    }

    private void call() {
        int count = model.parts.size();
        int entry = edge(count);
        switch (random.nextInt(14)) {
            case 0, 1 -> rowCall();
            case 2 -> nameCall();
            case 3 -> callIt(NAMES[random.nextInt(NAMES.length)]);
            case 4 -> add();
            case 5 -> {
                int size = edge(65537);
                int check = random.nextInt();
                same("addPacked", answer(() -> x.addPacked(size, check)), model.add(8, size, check));
            }
            case 6 -> same("remove", answer(() -> none(() -> x.remove(entry))), model.remove(entry));
            case 7 -> {
                int to = edge(count);
                same("move", answer(() -> none(() -> x.move(entry, to))), model.move(entry, to));
            }
            case 8 -> lookAt(entry);
            case 9 -> write();
            case 10, 11 -> {
                int limit = random.nextInt(3) == 0 ? edge(65537) : 65536;
                same("read", answer(() -> x.read(limit)), model.read(limit));
            }
            case 12 -> {
                int what = edge(3);
                same("blame", answer(() -> x.blame(what)), model.blame(what));
                same("find", x.find(), model.find());
                same("count", x.count(), count);
                same("length", x.length(), model.row.length);
            }
            default -> sharpen();
        }
    }

    private void rowCall() {
        switch (random.nextInt(5)) {
            case 0, 1 -> {
                int a = random.nextInt();
                int e = word(TELLING);
                same("feed", answer(() -> none(() -> x.feed(a, 0, -1, 0x504B0506, e))), model.feed(a, 0, -1, 0x504B0506, e));
            }
            case 2 -> end(edge(model.row.length));
            case 3 -> {
                int i = edge(model.row.length);
                int b = edge(256);
                same("alter", answer(() -> none(() -> x.alter(i, b))), model.alter(i, b));
            }
            default -> {
                int i = edge(model.row.length);
                same("byteAt", answer(() -> x.byteAt(i)), model.byteAt(i));
            }
        }
    }

    private void nameCall() {
        int word = random.nextInt(2) == 0 ? word(LETTERS) : 0x61626364;
        same("type", answer(() -> x.type(word)), model.type(word));
        if (random.nextInt(8) == 0) {
            x.erase();
            model.name = "";
        }
    }

    private void lookAt(int entry) {
        boolean there = entry >= 0 && entry < model.parts.size();
        int what = edge(5);
        int k = edge(there ? model.parts.get(entry).name().length() : 9);
        int i = edge(there ? model.parts.get(entry).bytes().length : 9);
        same("about", answer(() -> x.about(entry, what)), model.about(entry, what));
        same("name", answer(() -> x.name(entry, k)), model.name(entry, k));
        same("part", answer(() -> x.part(entry, i)), model.part(entry, i));
    }

    private void end(int n) {
        same("end", answer(() -> none(() -> x.end(n))), model.end(n));
    }

    private void callIt(String name) {
        Due.call(x, name);
        model.name = name;
    }

    private void add() {
        same("add", answer(() -> x.add()), model.add(0, model.row.length, (int) Container.crc(model.row)));
        if (model.parts.size() == 64) {
            see("64 entries");
        }
        if (model.bytesInAll() == 65536) {
            see("a full box");
        }
    }

    private void write() {
        same("write", answer(() -> x.write()), model.write());
        if (model.row.length == 65536) {
            see("a full row");
        }
    }

    /** Ends the row where the next add(), write() or feed() is just taken, or just not. */
    private void sharpen() {
        callIt("sharp" + random.nextInt(90));
        int byteRoom = 65536 - model.bytesInAll();
        int rowRoom = 65536 - 22 - model.parts.stream().mapToInt(p -> 76 + 2 * p.name().length() + p.bytes().length).sum();
        int[] due = {byteRoom, rowRoom - 76 - 2 * model.name.length(), 65516};
        int chosen = random.nextInt(due.length);
        int n = due[chosen] + random.nextInt(2);
        if (n >= 0 && n <= model.row.length) {
            end(n);
        }
        if (chosen < 2) {
            add();
            write();
        } else {
            same("feed", answer(() -> none(() -> x.feed(1, 2, 3, 4, 5))), model.feed(1, 2, 3, 4, 5));
        }
    }

    private void fillRow() {
        int n = random.nextInt(30000) + 36000;
        Due.grow(x, Math.min(65536, n));
        model.row = Due.row(x);
        model.name = "";
    }

    private void fillBox() {
        for (int i = random.nextInt(4); i < 64; i++) {
            callIt("fill" + i);
            add();
        }
    }

    private void sameState() {
        sameBytes("row", Due.row(x), model.row);
        same("find", x.find(), model.find());
        same("the name's length", x.type(0), model.name.length());
        for (int what = 0; what < 3; what++) {
            same("blame(" + what + ")", x.blame(what), model.blamed[what]);
        }
        same("count", x.count(), model.parts.size());
        for (int i = 0; i < Math.min(x.count(), model.parts.size()); i++) {
            Model.Part part = model.parts.get(i);
            same("name", Due.name(x, i), part.name());
            same("method", x.about(i, 0), part.method());
            sameBytes("bytes", Due.part(x, i), part.bytes());
            same("size", x.about(i, 2), part.size());
            same("check", x.about(i, 3), part.check());
        }
    }

    private Container container() {
        Container c = new Container();
        int count = random.nextInt(4);
        List<String> names = new ArrayList<>(List.of("a", "b/c", "Dd", ".../z", "n".repeat(64)));
        Collections.shuffle(names, random);
        for (int i = 0; i < count; i++) {
            String bytes = random.nextInt(4) == 0 ? "" : "PK\u0007\u0008bytes".substring(random.nextInt(9));
            Container.Item item = random.nextBoolean() ? c.stored(names.get(i), bytes)
                    : c.packed(names.get(i), bytes, random.nextInt(20), random.nextInt(3) == 0 ? 0x08074B50 : random.nextInt(9));
            if (random.nextInt(2) == 0) {
                item.tail(random.nextBoolean(), random.nextBoolean());
            }
            item.flags |= random.nextInt(3) == 0 ? 2048 : 0;
            item.headExtra = new byte[random.nextInt(2) * random.nextInt(5)];
            item.directoryExtra = new byte[random.nextInt(2) * random.nextInt(5)];
            item.comment = new byte[random.nextInt(2) * random.nextInt(5)];
        }
        Collections.shuffle(c.directoryOrder, random);
        if (random.nextInt(8) == 0 && count > 0) {
            c.directoryOrder.remove(0);
        }
        c.comment = new byte[random.nextInt(3) == 0 ? random.nextInt(30) : 0];
        return c;
    }

    /** One after another in the same object, so that what an earlier reading has left behind would show. */
    private void alteredContainers() {
        for (int times = 0; times < 4; times++) {
            alteredContainer();
        }
    }

    private void alteredContainer() {
        Container c = container();
        byte[] row = c.build();
        for (int times = random.nextInt(4); times > 0; times--) {
            int at = random.nextInt(row.length);
            row[at] = (byte) (random.nextBoolean() ? row[at] + random.nextInt(5) - 2 : TELLING[random.nextInt(TELLING.length)]);
        }
        if (random.nextInt(6) == 0) {
            redirect(c, row);
        }
        if (random.nextInt(20) == 0) {
            row = Arrays.copyOf(row, random.nextInt(row.length + 1));
        }
        Due.load(x, row);
        model.row = row;
        int limit = random.nextInt(5) == 0 ? random.nextInt(40) : 65536;
        same("read", x.read(limit), model.read(limit));
        see("fault " + model.blamed[0]);
        sameState();
    }

    /** Sends a directory head to another place, most often to another head: faults 7 and 10 come from that. */
    private void redirect(Container c, byte[] row) {
        if (c.directoryOrder.isEmpty()) {
            return;
        }
        int at = c.items.get(c.directoryOrder.get(0)).directoryHead + 42;
        int to = random.nextBoolean() ? c.items.get(random.nextInt(c.items.size())).head : random.nextInt();
        for (int k = 0; k < 4; k++) {
            row[at + k] = (byte) (to >> 8 * k);
        }
    }
}
