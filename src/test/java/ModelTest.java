import java.util.ArrayList;
import java.util.Arrays;
import java.util.Collections;
import java.util.List;
import java.util.Random;
import java.util.function.Supplier;

/** Long runs of calls, and containers with bytes altered, must answer as the model does. The seeds are fixed. */
public final class ModelTest {
    private static final String[] NAMES = {"a", "A", "b", "a/b", "A/B", ".", "..", "a/..", "a\\b", "", "x.y", "X.Y",
        "...", "q", "/q", "long/name/of/many/pieces", "abcdefgh", "z"};
    private static final int[] TELLING = {0, 1, 2, 3, 4, 5, 6, 7, 8, 9, 20, 31, 46, 47, 50, 75, 80, 92, 97, 127, 128, 255};

    private static final int[] faultsSeen = new int[12];
    private static int run;

    private ModelTest() {
    }

    public static void main(String[] args) {
        for (run = 0; run < 400; run++) {
            runOfCalls(new Random(run));
        }
        for (run = 0; run < 60000; run++) {
            alteredContainer(new Random(run));
        }
        for (int fault = 0; fault < faultsSeen.length; fault++) {
            Due.is("fault " + fault + " was seen often enough", faultsSeen[fault] >= 100 ? 1 : 0, 1);
        }
        Due.finish();
    }

    private static Object answer(Supplier<Object> call) {
        try {
            return call.get();
        } catch (RuntimeException e) {
            return e.getClass().getSimpleName();
        }
    }

    private static void same(String call, Object got, Object want) {
        if (!got.equals(want)) {
            Due.is("run " + run + ", " + call + " answered " + got + ", due is " + want, 1, 0);
        }
    }

    private static void runOfCalls(Random random) {
        PartBox x = new PartBox();
        Model model = new Model();
        // Each step makes up to ten calls, and the look at the end is not counted: 45 stay below 512.
        for (int step = 0; step < 45; step++) {
            call(x, model, random);
        }
        sameState(x, model);
    }

    private static void call(PartBox x, Model model, Random random) {
        int count = model.parts.size();
        int entry = random.nextInt(count + 2) - (random.nextInt(8) == 0 ? 1 : 0);
        boolean there = entry >= 0 && entry < count;
        switch (random.nextInt(12)) {
            case 0, 1, 2 -> {
                model.name = NAMES[random.nextInt(NAMES.length)];
                Due.call(x, model.name);
                same("find", x.find(), model.find());
            }
            case 3 -> {
                model.row = new byte[random.nextInt(60)];
                random.nextBytes(model.row);
                Due.load(x, model.row);
            }
            case 4, 5 -> same("add", answer(() -> x.add()),
                    model.add(0, model.row.length, (int) Container.crc(model.row)));
            case 6 -> {
                int size = random.nextInt(100) - 5;
                int check = random.nextInt();
                same("addPacked", answer(() -> x.addPacked(size, check)), model.add(8, size, check));
            }
            case 7 -> {
                same("remove", answer(() -> none(() -> x.remove(entry))), there ? 0 : "IndexOutOfBoundsException");
                if (there) {
                    model.parts.remove(entry);
                }
            }
            case 8 -> {
                int to = random.nextInt(count + 1);
                boolean both = there && to < count;
                same("move", answer(() -> none(() -> x.move(entry, to))), both ? 0 : "IndexOutOfBoundsException");
                if (both) {
                    model.parts.add(to, model.parts.remove(entry));
                }
            }
            case 9, 10 -> same("write", answer(() -> x.write()), model.write());
            default -> {
                int limit = random.nextInt(4) == 0 ? random.nextInt(200) : 65536;
                same("read", x.read(limit), model.read(limit));
            }
        }
    }

    private static Object none(Due.Act act) {
        act.run();
        return 0;
    }

    private static void sameState(PartBox x, Model model) {
        same("row", Arrays.toString(Due.row(x)), Arrays.toString(model.row));
        same("find", x.find(), model.find());
        for (int what = 0; what < 3; what++) {
            same("blame(" + what + ")", x.blame(what), model.blamed[what]);
        }
        same("count", x.count(), model.parts.size());
        for (int i = 0; i < Math.min(x.count(), model.parts.size()); i++) {
            Model.Part part = model.parts.get(i);
            same("name", Due.name(x, i), part.name());
            same("method", x.about(i, 0), part.method());
            same("bytes", Arrays.toString(Due.part(x, i)), Arrays.toString(part.bytes()));
            same("size", x.about(i, 2), part.size());
            same("check", x.about(i, 3), part.check());
        }
    }

    private static Container container(Random random) {
        Container c = new Container();
        int count = random.nextInt(4);
        List<String> names = new ArrayList<>(List.of("a", "b/c", "Dd", ".../z", "n".repeat(64)));
        Collections.shuffle(names, random);
        for (int i = 0; i < count; i++) {
            String bytes = random.nextInt(4) == 0 ? "" : "PK\u0007\u0008bytes".substring(random.nextInt(9));
            Container.Item item = random.nextBoolean() ? c.stored(names.get(i), bytes)
                    : c.packed(names.get(i), bytes, random.nextInt(20), random.nextInt(3) == 0 ? 0x08074B50 : random.nextInt(9));
            if (random.nextInt(2) == 0) {
                item.tail(random.nextBoolean(), random.nextBoolean());
            }
            item.flags |= random.nextInt(3) == 0 ? 2048 : 0;
            item.headExtra = new byte[random.nextInt(2) * random.nextInt(5)];
            item.directoryExtra = new byte[random.nextInt(2) * random.nextInt(5)];
            item.comment = new byte[random.nextInt(2) * random.nextInt(5)];
        }
        Collections.shuffle(c.directoryOrder, random);
        if (random.nextInt(8) == 0 && count > 0) {
            c.directoryOrder.remove(0);
        }
        c.comment = new byte[random.nextInt(3) == 0 ? random.nextInt(30) : 0];
        return c;
    }

    private static void alteredContainer(Random random) {
        Container c = container(random);
        byte[] row = c.build();
        for (int times = random.nextInt(4); times > 0; times--) {
            int at = random.nextInt(row.length);
            row[at] = (byte) (random.nextBoolean() ? row[at] + random.nextInt(5) - 2 : TELLING[random.nextInt(TELLING.length)]);
        }
        if (random.nextInt(6) == 0) {
            redirect(c, row, random);
        }
        if (random.nextInt(20) == 0) {
            row = Arrays.copyOf(row, random.nextInt(row.length + 1));
        }
        PartBox x = new PartBox();
        Model model = new Model();
        Due.load(x, row);
        model.row = row;
        int limit = random.nextInt(5) == 0 ? random.nextInt(40) : 65536;
        same("read", x.read(limit), model.read(limit));
        faultsSeen[model.blamed[0]]++;
        sameState(x, model);
    }

    /** Sends a directory head to another place, most often to another head: faults 7 and 10 come from that. */
    private static void redirect(Container c, byte[] row, Random random) {
        if (c.directoryOrder.isEmpty()) {
            return;
        }
        int at = c.items.get(c.directoryOrder.get(0)).directoryHead + 42;
        int to = random.nextBoolean() ? c.items.get(random.nextInt(c.items.size())).head : random.nextInt();
        for (int k = 0; k < 4; k++) {
            row[at + k] = (byte) (to >> 8 * k);
        }
    }
}
