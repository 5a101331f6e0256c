/** Promises 14 and 15: commit and crash. */
public final class CrashTest {
    public static void main(String[] args) {
        withoutCommit();
        asAtTheLatestCommit();
        draftAndResults();
        Probe.end();
    }

    private static void withoutCommit() {
        Probe p = new Probe("no commit");
        p.put(0, "[1]", 0);
        p.put(2, "2", 0);
        p.store.crash();
        for (int d = 0; d < 3; d++) {
            p.text(d, null);
            p.due("depth", p.store.depth(d), -1);
            p.due("count", p.store.count(d), 0);
        }
        p.store.crash();
        p.text(0, null);
    }

    private static void asAtTheLatestCommit() {
        Probe p = new Probe("commit");
        p.put(0, "{\"a\":[1]}", 0);
        p.put(1, "true", 0);
        p.store.commit();
        p.text(0, "{\"a\":[1]}");
        p.patch(0, "[{\"op\":\"add\",\"path\":\"/a/-\",\"value\":2}]", 0);
        p.store.delete(1);
        p.put(2, "[]", 0);
        p.store.crash();
        p.text(0, "{\"a\":[1]}");
        p.text(1, "true");
        p.text(2, null);
        p.due("depth", p.store.depth(0), 2);
        p.due("count", p.store.count(0), 3);
        p.patch(0, "[{\"op\":\"remove\",\"path\":\"/a\"}]", 0);
        p.store.delete(1);
        p.store.crash();
        p.text(0, "{\"a\":[1]}");
        p.text(1, "true");
        p.patch(0, "[{\"op\":\"remove\",\"path\":\"/a\"}]", 0);
        p.store.delete(1);
        p.store.commit();
        p.put(0, "0", 0);
        p.put(1, "1", 0);
        p.store.crash();
        p.text(0, "{}");
        p.text(1, null);
        p.store.commit();
        p.store.commit();
        p.store.crash();
        p.text(0, "{}");
    }

    private static void draftAndResults() {
        Probe p = new Probe("draft and results");
        p.put(0, "[1,2]", 0);
        p.query(0, "$[*]", "1 | 2");
        p.write("12");
        p.store.commit();
        p.due("draft after a commit", p.store.draft(), 2);
        p.due("results after a commit", p.shown(), "1 | 2");
        p.store.crash();
        p.due("draft after a crash", p.store.draft(), 0);
        p.due("results after a crash", p.store.results(), 0);
        p.due("shown after a crash", p.store.shown(0, 0), -1);
        p.text(0, "[1,2]");
        p.put(1, "3", 0);
        p.text(1, "3");
        p.query(0, "$[1]", "2");
    }
}
