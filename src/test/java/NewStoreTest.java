/** Promise 1, a new object, and how its two arguments make LIMIT and ROOM. */
public final class NewStoreTest {
    public static void main(String[] args) {
        holdsNothing();
        limitIsOfTheLowestThreeBits();
        roomIsOfTheLowestFiveBits();
        objectsShareNothing();
        answersUpToThe512thCall();
        Probe.end();
    }

    private static void holdsNothing() {
        Probe p = new Probe("new");
        for (int d = -1; d <= 3; d++) {
            p.text(d, null);
            p.due("depth", p.store.depth(d), -1);
            p.due("count", p.store.count(d), 0);
            p.due("delete", p.store.delete(d), false);
            p.due("patch", p.store.patch(d), -1);
            p.due("query", p.store.query(d), -1);
        }
        p.due("draft", p.store.draft(), 0);
        p.due("results", p.store.results(), 0);
        p.due("shown", p.store.shown(0, 0), -1);
    }

    private static void limitIsOfTheLowestThreeBits() {
        int[] arguments = {0, 1, 2, 3, 4, 5, 6, 7, 8, 15, -1, -8, Integer.MIN_VALUE, Integer.MAX_VALUE};
        int[] limits = {1, 2, 3, 4, 5, 6, 7, 8, 1, 8, 8, 1, 1, 8};
        for (int i = 0; i < arguments.length; i++) {
            Probe p = Probe.of("limit of " + arguments[i], arguments[i], 31);
            p.put(0, "[".repeat(limits[i]) + "]".repeat(limits[i]), 0);
            p.due("depth", p.store.depth(0), limits[i]);
            p.put(0, "[".repeat(limits[i] + 1) + "]".repeat(limits[i] + 1), 2);
        }
    }

    private static void roomIsOfTheLowestFiveBits() {
        int[] arguments = {0, 1, 9, 30, 31, 32, 33, 63, -1, -32, Integer.MIN_VALUE, Integer.MAX_VALUE};
        int[] rooms = {1, 2, 10, 31, 32, 1, 2, 32, 32, 1, 1, 32};
        for (int i = 0; i < arguments.length; i++) {
            Probe p = Probe.of("room of " + arguments[i], 7, arguments[i]);
            p.put(0, arrayOfCount(rooms[i]), 0);
            p.due("count", p.store.count(0), rooms[i]);
            p.put(0, arrayOfCount(rooms[i] + 1), 4);
            p.due("count", p.store.count(0), rooms[i]);
        }
    }

    private static void objectsShareNothing() {
        Probe one = new Probe("one of two", 8, 32);
        Probe other = new Probe("the other of two", 1, 2);
        one.put(0, "{\"a\":[1,2]}", 0);
        one.write("$.a[*]");
        other.due("draft", other.store.draft(), 0);
        other.put(0, "[3]", 0);
        one.due("query", one.store.query(0), 2);
        other.due("results", other.store.results(), 0);
        one.store.commit();
        other.store.crash();
        other.text(0, null);
        one.due("shown", one.shown(), "1 | 2");
        one.text(0, "{\"a\":[1,2]}");
    }

    private static void answersUpToThe512thCall() {
        Probe p = new Probe("an object is used for at most 512 calls");
        for (int i = 0; i < 127; i++) {
            p.due("write", p.store.write(Probe.packed("[" + i + "]")), true);
            p.due("put", p.store.put(0), 0);
            p.due("write", p.store.write(Probe.packed("$[0]")), true);
            p.due("query", p.store.query(0), 1);
        }
        p.store.commit();
        p.store.crash();
        p.due("count", p.store.count(0), 2);
        p.due("the 512th call", p.store.letter(0, 1), (int) '1');
    }

    private static String arrayOfCount(int count) {
        return count == 1 ? "[]" : "[" + "0,".repeat(count - 2) + "0]";
    }
}
