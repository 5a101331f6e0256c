/** What "Terms" says of documents, at its edges: LIMIT and ROOM, exactly and one beyond. */
public final class DocumentEdgesTest {
    private static final int[] ARGUMENTS = {Integer.MIN_VALUE, Integer.MIN_VALUE + 1, Integer.MIN_VALUE + 31, -1000, -256, -65, -64, -63,
        -34, -33, -32, -31, -30, -17, -16, -15, -9, -8, -7, -6, -5, -4, -3, -2, -1, 0, 1, 2, 3, 4, 5, 6, 7, 8, 9, 10, 15, 16, 17, 24, 30,
        31, 32, 33, 39, 40, 62, 63, 64, 65, 255, 256, 1 << 16, Integer.MAX_VALUE - 31, Integer.MAX_VALUE - 8, Integer.MAX_VALUE - 7,
        Integer.MAX_VALUE - 1, Integer.MAX_VALUE};

    public static void main(String[] args) {
        notThereAtFirst();
        for (int argument : ARGUMENTS) {
            // Written without masks, so as not to say the same as the program.
            limit(argument, 1 + Math.floorMod(argument, 8));
            room(argument, 1 + Math.floorMod(argument, 32));
        }
        eachOfItsOwnArgument();
        threeOfThem();
        Probe.end();
    }

    private static void notThereAtFirst() {
        Probe p = new Probe("documents are not there at first");
        for (int d = 0; d < 3; d++) {
            p.text(d, null);
            p.due("depth", p.store.depth(d), -1);
            p.due("count", p.store.count(d), 0);
            p.due("delete", p.store.delete(d), false);
            p.patch(d, "[]", -1);
            p.queryAnswers(d, "$", -1);
        }
    }

    private static void limit(int argument, int limit) {
        Probe p = Probe.of("no document is ever deeper than LIMIT, of argument " + argument, argument, 31);
        p.put(0, arrays(limit), 0);
        p.due("depth", p.store.depth(0), limit);
        p.put(1, objects(limit), 0);
        p.due("depth", p.store.depth(1), limit);
        p.put(0, arrays(limit + 1), 2);
        p.put(0, "[0," + arrays(limit) + "]", 2);
        p.put(1, objects(limit + 1), 2);
        p.patch(0, Op.add("/0".repeat(limit), "[]"), 2);
        p.patch(0, Op.add("/0".repeat(limit), "0"), 0);
        p.patch(0, Op.replace("/0".repeat(limit), "{}"), 2);
        p.patch(0, Op.copy("", "/-"), 2);
        p.patch(0, Op.add("", arrays(limit)), 0);
        p.text(0, arrays(limit));
        p.due("depth", p.store.depth(0), limit);
        p.text(1, objects(limit));
    }

    private static String arrays(int depth) {
        return "[".repeat(depth) + "]".repeat(depth);
    }

    private static String objects(int depth) {
        return "{\"a\":".repeat(depth - 1) + "{}" + "}".repeat(depth - 1);
    }

    private static void room(int argument, int room) {
        Probe p = Probe.of("no document has a count above ROOM, of argument " + argument, 7, argument);
        p.put(0, arrayOf(room), 0);
        p.due("count", p.store.count(0), room);
        p.put(0, arrayOf(room + 1), 4);
        p.patch(0, Op.add("/-", "0"), 4);
        p.patch(0, Op.copy("", "/-"), 4);
        p.patch(0, Op.add("", arrayOf(room + 1)), 4);
        p.patch(0, Op.replace("", arrayOf(room)), 0);
        p.due("count", p.store.count(0), room);
        p.put(1, "7", 0);
        p.put(1, "[]", 0);
        p.put(2, "{}", 0);
        for (int count = 1; count < room; count++) {
            p.patch(1, Op.add("/-", "0"), 0);
        }
        p.patch(1, Op.add("/-", "0"), 4);
        p.due("count", p.store.count(1), room);
        p.due("count", p.store.count(2), 1);
    }

    private static String arrayOf(int count) {
        return count == 1 ? "[]" : "[" + "0,".repeat(count - 2) + "0]";
    }

    private static void eachOfItsOwnArgument() {
        Probe p = Probe.of("LIMIT is of the first argument, ROOM of the second", -1, 0);
        p.put(0, "[]", 0);
        p.put(0, "[0]", 4);
        p.put(0, "[[[[[[[[]]]]]]]]", 4);
        p.put(0, "[[[[[[[[[", 2);
        p.text(0, "[]");
        p = Probe.of("LIMIT is of the first argument, ROOM of the second", 0, -1);
        p.put(0, arrayOf(32), 0);
        p.put(0, arrayOf(33), 4);
        p.put(0, "[[", 2);
        p.due("count", p.store.count(0), 32);
    }

    private static void threeOfThem() {
        Probe p = new Probe("DOCUMENTS 0, 1, 2");
        for (int d = 0; d < 3; d++) {
            p.put(d, "[" + d + "]", 0);
        }
        p.put(3, "[3]", -1);
        p.put(-1, "[3]", -1);
        for (int d = 0; d < 3; d++) {
            p.text(d, "[" + d + "]");
        }
        p.patch(1, Op.add("/0", "7"), 0);
        p.text(0, "[0]");
        p.text(1, "[7,1]");
        p.text(2, "[2]");
    }
}
