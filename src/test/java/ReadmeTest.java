/** The example of README.md: its calls answer what is written there behind them. */
public final class ReadmeTest {
    public static void main(String[] args) {
        Probe p = new Probe("README.md", 4, 32);
        PatchStore store = p.store;
        write(store, "{\"a\": [1, 2]}");
        p.due("put", store.put(0), 0);
        write(store, "[{\"op\":\"add\",\"path\":\"/a/-\",\"value\":3}]");
        p.due("patch", store.patch(0), 0);
        p.due("length", store.length(0), 13);
        p.due("letter", store.letter(0, 0), 123);
        write(store, "$.a[?@ >= 2]");
        p.due("query", store.query(0), 2);
        p.due("first result", store.shown(0, 0), 50);
        p.due("second result", store.shown(1, 0), 51);
        p.due("behind the second result", store.shown(1, 1), -1);
        store.commit();
        p.due("delete", store.delete(0), true);
        store.crash();
        p.text(0, "{\"a\":[1,2,3]}");
        Probe.end();
    }

    private static void write(PatchStore store, String text) {
        for (int i = 0; i < text.length(); i += 8) {
            long w = 0;
            for (int j = i; j < Math.min(text.length(), i + 8); j++) {
                w = w << 8 | text.charAt(j);
            }
            store.write(w);
        }
    }
}
