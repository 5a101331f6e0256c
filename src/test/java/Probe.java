/** A store under test: speaks to it in texts and keeps count of the answers that are not the ones due. */
final class Probe {
    private static int wrong = 0;

    final PatchStore store;
    private final String label;

    private Probe(String label, PatchStore store) {
        this.label = label;
        this.store = store;
    }

    /** The limit and the room as the document means them: 1 .. 8 and 1 .. 32. */
    Probe(String label, int limit, int room) {
        this(label, new PatchStore(limit - 1, room - 1));
    }

    /** A store made with just these arguments. */
    static Probe of(String label, int first, int second) {
        return new Probe(label, new PatchStore(first, second));
    }

    /** A store with the widest limits. */
    Probe(String label) {
        this(label, 8, 32);
    }

    /** Every character that a draft can have. */
    static String everyCharacter() {
        StringBuilder all = new StringBuilder();
        for (char c = 32; c <= 126; c++) {
            all.append(c);
        }
        return all.toString();
    }

    static long packed(String text) {
        long w = 0;
        for (int i = 0; i < text.length(); i++) {
            w = w << 8 | text.charAt(i);
        }
        return w;
    }

    void due(String call, Object got, Object due) {
        if (!got.equals(due)) {
            wrong++;
            System.out.println(label + ": " + call + " answered " + got + ", due is " + due);
        }
    }

    Probe write(String text) {
        for (int i = 0; i < text.length(); i += 8) {
            String piece = text.substring(i, Math.min(text.length(), i + 8));
            due("write " + piece, store.write(packed(piece)), true);
        }
        return this;
    }

    void put(int d, String text, int due) {
        write(text);
        due("put(" + d + ") of " + text, store.put(d), due);
        due("draft() after put", store.draft(), 0);
    }

    void patch(int d, String text, int due) {
        write(text);
        due("patch(" + d + ") of " + text, store.patch(d), due);
        due("draft() after patch", store.draft(), 0);
    }

    /** The results of the query, in order, with " | " between them. */
    void query(int d, String path, String due) {
        write(path);
        int answer = store.query(d);
        due("query(" + d + ") of " + path, answer < 0 ? "" + answer : shown(), due);
        if (answer >= 0) {
            due("query(" + d + ") of " + path + " as a number", answer, store.results());
        }
        due("draft() after query", store.draft(), 0);
    }

    void queryAnswers(int d, String path, int due) {
        write(path);
        due("query(" + d + ") of " + path, store.query(d), due);
        due("draft() after query", store.draft(), 0);
    }

    /** The document has this text; null when it is not there. */
    void text(int d, String due) {
        int length = store.length(d);
        due("length(" + d + ")", length, due == null ? -1 : due.length());
        StringBuilder got = new StringBuilder();
        for (int i = 0; i < length; i++) {
            got.append((char) store.letter(d, i));
        }
        due("text of document " + d, got.toString(), due == null ? "" : due);
        due("letter(" + d + ") behind the end", store.letter(d, Math.max(length, 0)), -1);
        due("letter(" + d + ") before the beginning", store.letter(d, -1), -1);
    }

    /** The document, put and shown again, has this text. */
    void reads(String draft, String due) {
        put(0, draft, 0);
        text(0, due);
    }

    /** A store of its own reads the draft, and its text is then the one that is due. */
    static void read(String label, String draft, String due) {
        new Probe(label).reads(draft, due);
    }

    /** A store of its own does not put the draft: what was there stays. */
    static void unread(String label, String draft, int due) {
        Probe p = new Probe(label);
        p.put(0, "[7]", 0);
        p.put(0, draft, due);
        p.text(0, "[7]");
    }

    /** A store of its own does the patch on the document. */
    static void patched(String label, String document, String patch, String due) {
        Probe p = new Probe(label + ": " + document);
        p.put(1, document, 0);
        p.patch(1, patch, 0);
        p.text(1, due);
    }

    /** A store of its own does nothing of the patch on the document, which is to be given as its text. */
    static void unpatched(String label, String document, String patch, int due) {
        Probe p = new Probe(label + ": " + document);
        p.put(1, document, 0);
        p.patch(1, patch, due);
        p.text(1, document);
    }

    /** A store of its own, asked by the path: no object is used for more than 512 calls. */
    static void asked(String label, String document, String path, String due) {
        asking(label, document).query(0, path, due);
    }

    static void noPath(String label, String document, String path) {
        asking(label, document).queryAnswers(0, path, -2);
    }

    /** A store of its own with the document to be asked. */
    static Probe asking(String label, String document) {
        Probe p = new Probe(label + ": " + document);
        p.put(0, document, 0);
        return p;
    }

    String shown() {
        StringBuilder got = new StringBuilder();
        for (int k = 0; k < store.results(); k++) {
            got.append(k == 0 ? "" : " | ").append(shown(k));
        }
        return got.toString();
    }

    private String shown(int k) {
        StringBuilder got = new StringBuilder();
        for (int i = 0; store.shown(k, i) >= 0; i++) {
            got.append((char) store.shown(k, i));
        }
        return got.toString();
    }

    /** To be called at the end of each test's main. */
    static void end() {
        System.out.println(wrong == 0 ? "all answers are as due" : wrong + " answers are not as due");
        if (wrong != 0) {
            System.exit(1);
        }
    }
}
