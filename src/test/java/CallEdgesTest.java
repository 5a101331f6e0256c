/** Promises 3 to 8, 10, 12 and 13, at their edges: numbers of documents, results and characters, and documents that are not there. */
public final class CallEdgesTest {
    private static final int[] NO_DOCUMENTS = {-1, 3, -2, -3, 4, 255, 256, 65536, Integer.MIN_VALUE, Integer.MIN_VALUE + 1,
        Integer.MAX_VALUE, Integer.MAX_VALUE - 1};

    public static void main(String[] args) {
        noSuchDocument();
        documentsThatAreNotThere();
        lettersAtBothEnds();
        shownAtBothEnds();
        documentsThatArePutAgain();
        deletedDocuments();
        Probe.end();
    }

    private static void noSuchDocument() {
        for (int d : NO_DOCUMENTS) {
            Probe p = new Probe("when there is no such document");
            for (int i = 0; i < 3; i++) {
                p.put(i, "[" + i + "]", 0);
            }
            p.query(0, "$[0]", "0");
            for (String draft : new String[] {"[7]", "[", "[[[[[[[[[", "{\"a\":1,\"a\":1}", "[" + "0,".repeat(40) + "0]", ""}) {
                p.put(d, draft, -1);
                p.patch(d, draft, -1);
            }
            p.patch(d, Op.remove("/0"), -1);
            p.queryAnswers(d, "$[0]", -1);
            p.queryAnswers(d, "$[", -1);
            p.due("delete", p.store.delete(d), false);
            p.due("length", p.store.length(d), -1);
            p.due("letter", p.store.letter(d, 0), -1);
            p.due("depth", p.store.depth(d), -1);
            p.due("count", p.store.count(d), 0);
            p.due("results stay", p.shown(), "0");
            for (int i = 0; i < 3; i++) {
                p.text(i, "[" + i + "]");
            }
        }
    }

    private static void documentsThatAreNotThere() {
        for (int d = 0; d < 3; d++) {
            Probe p = new Probe("when it is not there");
            p.put((d + 1) % 3, "[1,[2]]", 0);
            p.put((d + 2) % 3, "{}", 0);
            for (String draft : new String[] {"[]", "[", "[[[[[[[[[[[", "[{\"a\":1,\"a\":1}]", "[1]", Op.remove("/0"), Op.add("", "1"),
                Op.test("", "1")}) {
                p.patch(d, draft, -1);
            }
            for (String draft : new String[] {"$", "$[", "", "$[*,*,*]"}) {
                p.queryAnswers(d, draft, -1);
            }
            p.due("delete", p.store.delete(d), false);
            p.text(d, null);
            p.due("depth", p.store.depth(d), -1);
            p.due("count", p.store.count(d), 0);
            p.put(d, "[", 1);
            p.text(d, null);
            p.put(d, "[7]", 0);
            p.text(d, "[7]");
            p.text((d + 1) % 3, "[1,[2]]");
            p.text((d + 2) % 3, "{}");
        }
    }

    private static void lettersAtBothEnds() {
        for (String text : new String[] {"0", "[]", "\"\"", "null", "{\"a\":[1,\"\\\\\"]}", "\"" + "a".repeat(158) + "\""}) {
            Probe p = new Probe("the code of character i of that text; -1 when there is none");
            p.put(2, text, 0);
            int length = text.length();
            p.due("length", p.store.length(2), length);
            p.due("the first", p.store.letter(2, 0), (int) text.charAt(0));
            p.due("the last", p.store.letter(2, length - 1), (int) text.charAt(length - 1));
            for (int i : new int[] {length, length + 1, 256, 1 << 16, Integer.MAX_VALUE, -1, -2, -length, Integer.MIN_VALUE}) {
                p.due("letter(2, " + i + ") of " + length, p.store.letter(2, i), -1);
            }
        }
    }

    private static void shownAtBothEnds() {
        Probe p = new Probe("the code of character i of the text of result k; -1 when there is none");
        p.due("before the first query", p.store.shown(0, 0), -1);
        p.put(0, "[12,\"\",{\"a\":\"\\\"\"}]", 0);
        p.query(0, "$[*]", "12 | \"\" | {\"a\":\"\\\"\"}");
        String[] texts = {"12", "\"\"", "{\"a\":\"\\\"\"}"};
        for (int k = 0; k < 3; k++) {
            int length = texts[k].length();
            p.due("the first", p.store.shown(k, 0), (int) texts[k].charAt(0));
            p.due("the last", p.store.shown(k, length - 1), (int) texts[k].charAt(length - 1));
            for (int i : new int[] {length, length + 1, Integer.MAX_VALUE, -1, -length, Integer.MIN_VALUE}) {
                p.due("shown(" + k + ", " + i + ")", p.store.shown(k, i), -1);
            }
        }
        for (int k : new int[] {3, 4, 39, 40, 41, Integer.MAX_VALUE, -1, -3, Integer.MIN_VALUE}) {
            p.due("shown(" + k + ", 0)", p.store.shown(k, 0), -1);
            p.due("shown(" + k + ", -1)", p.store.shown(k, -1), -1);
        }
    }

    private static void documentsThatArePutAgain() {
        Probe p = new Probe("the draft becomes document d: 0; otherwise the document stays", 2, 3);
        p.put(0, "[1,2]", 0);
        p.put(0, "{\"a\":[3]}", 0);
        p.text(0, "{\"a\":[3]}");
        p.put(0, "[4", 1);
        p.put(0, "[[[", 2);
        p.put(0, "{\"b\":1,\"b\":2}", 3);
        p.put(0, "[1,2,3]", 4);
        p.text(0, "{\"a\":[3]}");
        p.due("depth", p.store.depth(0), 2);
        p.due("count", p.store.count(0), 3);
        p.put(0, "5", 0);
        p.text(0, "5");
        p.due("depth", p.store.depth(0), 0);
        p.due("count", p.store.count(0), 1);
    }

    private static void deletedDocuments() {
        Probe p = new Probe("document d is there no more: true; false when it was not there");
        p.put(0, "null", 0);
        p.put(1, "[1]", 0);
        p.put(2, "{\"a\":1}", 0);
        for (int d = 0; d < 3; d++) {
            p.due("delete(" + d + ")", p.store.delete(d), true);
            p.due("delete(" + d + ") again", p.store.delete(d), false);
            p.text(d, null);
            p.due("depth", p.store.depth(d), -1);
            p.due("count", p.store.count(d), 0);
            p.patch(d, Op.add("", "1"), -1);
            p.queryAnswers(d, "$", -1);
            if (d < 2) {
                p.text(d + 1, d == 0 ? "[1]" : "{\"a\":1}");
            }
        }
        p.put(1, "2", 0);
        p.text(1, "2");
        p.due("delete(1)", p.store.delete(1), true);
    }
}
