/** Promise 5: delete. */
public final class DeleteTest {
    public static void main(String[] args) {
        Probe p = new Probe("delete");
        p.put(0, "0", 0);
        p.put(1, "[1]", 0);
        p.put(2, "{}", 0);
        for (int d : new int[] {-1, 3, Integer.MIN_VALUE, Integer.MAX_VALUE}) {
            p.due("delete(" + d + ")", p.store.delete(d), false);
        }
        p.due("delete(1)", p.store.delete(1), true);
        p.due("delete(1) again", p.store.delete(1), false);
        p.text(0, "0");
        p.text(1, null);
        p.text(2, "{}");
        p.due("depth(1)", p.store.depth(1), -1);
        p.due("count(1)", p.store.count(1), 0);
        p.patch(1, "[]", -1);
        p.queryAnswers(1, "$", -1);
        p.put(1, "null", 0);
        p.due("a document null is there", p.store.delete(1), true);
        p.text(1, null);
        Probe.end();
    }
}
