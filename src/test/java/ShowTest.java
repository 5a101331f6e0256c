/** Promises 7 to 10, 12 and 13: length, letter, results, shown, depth and count. */
public final class ShowTest {
    public static void main(String[] args) {
        lengthAndLetter();
        longTexts();
        resultsAndShown();
        resultsStay();
        depthAndCount();
        Probe.end();
    }

    private static void lengthAndLetter() {
        Probe p = new Probe("text");
        p.put(0, " { \"a\\\"\" : [ 1 , -0 , \"\\/\\\\\" ] , \"b\" : null } ", 0);
        p.text(0, "{\"a\\\"\":[1,0,\"/\\\\\"],\"b\":null}");
        p.due("letter(0, 3)", p.store.letter(0, 3), (int) '\\');
        for (int i : new int[] {-1, 29, 30, 160, Integer.MIN_VALUE, Integer.MAX_VALUE}) {
            p.due("letter(0, " + i + ")", p.store.letter(0, i), -1);
        }
        for (int d : new int[] {-1, 1, 2, 3, Integer.MIN_VALUE, Integer.MAX_VALUE}) {
            p.due("length(" + d + ")", p.store.length(d), -1);
            p.due("letter(" + d + ", 0)", p.store.letter(d, 0), -1);
        }
        p.put(0, "\"" + "a".repeat(158) + "\"", 0);
        p.text(0, "\"" + "a".repeat(158) + "\"");
    }

    /** A document's text can be far longer than a draft. */
    private static void longTexts() {
        Probe p = new Probe("long text");
        String text = "\"" + "\\\"".repeat(70) + "\"";
        p.put(0, "[]", 0);
        p.patch(0, "", 1);
        p.put(0, "[" + text + "]", 0);
        StringBuilder due = new StringBuilder("[").append(text);
        for (int i = 1; i < 31; i++) {
            p.patch(0, "[{\"op\":\"copy\",\"from\":\"/0\",\"path\":\"/-\"}]", 0);
            due.append(",").append(text);
        }
        p.patch(0, "[{\"op\":\"copy\",\"from\":\"/0\",\"path\":\"/-\"}]", 4);
        p.due("length", p.store.length(0), 31 * 143 + 1);
        for (int i = 0; i < due.length() + 1; i += 199) {
            p.due("letter(0, " + i + ")", p.store.letter(0, i), (int) due.charAt(i));
        }
        p.due("the last letter", p.store.letter(0, 31 * 143), (int) ']');
        p.due("no letter", p.store.letter(0, 31 * 143 + 1), -1);
    }

    private static void resultsAndShown() {
        Probe p = new Probe("results");
        p.due("results before the first query", p.store.results(), 0);
        p.put(0, "[12,\"\\\"\",{\"a\":[]}]", 0);
        p.due("results before the first query", p.store.results(), 0);
        p.query(0, "$[*]", "12 | \"\\\"\" | {\"a\":[]}");
        p.due("shown(0, 0)", p.store.shown(0, 0), (int) '1');
        p.due("shown(0, 1)", p.store.shown(0, 1), (int) '2');
        p.due("shown(1, 1)", p.store.shown(1, 1), (int) '\\');
        p.due("shown(2, 7)", p.store.shown(2, 7), (int) '}');
        int[][] none = {{0, 2}, {0, -1}, {1, 4}, {2, 8}, {3, 0}, {-1, 0}, {40, 0}, {Integer.MIN_VALUE, 0}, {Integer.MAX_VALUE, 0},
            {0, Integer.MIN_VALUE}, {0, Integer.MAX_VALUE}};
        for (int[] call : none) {
            p.due("shown(" + call[0] + ", " + call[1] + ")", p.store.shown(call[0], call[1]), -1);
        }
        p.query(0, "$[1]", "\"\\\"\"");
        p.due("shown(1, 0)", p.store.shown(1, 0), -1);
        p.query(0, "$[9]", "");
        p.due("shown(0, 0)", p.store.shown(0, 0), -1);
    }

    private static void resultsStay() {
        Probe p = new Probe("results stay");
        p.put(0, "{\"a\":[1,{\"b\":2}]}", 0);
        p.put(1, "[3]", 0);
        p.query(0, "$..*", "[1,{\"b\":2}] | 1 | {\"b\":2} | 2");
        p.patch(0, "[{\"op\":\"add\",\"path\":\"/a/0\",\"value\":7}]", 0);
        p.patch(0, "[{\"op\":\"replace\",\"path\":\"/a/2/b\",\"value\":8}]", 0);
        p.due("shown after a patch", p.shown(), "[1,{\"b\":2}] | 1 | {\"b\":2} | 2");
        p.put(0, "9", 0);
        p.store.delete(0);
        p.store.commit();
        p.put(1, "x", 1);
        p.due("shown after a put and a delete", p.shown(), "[1,{\"b\":2}] | 1 | {\"b\":2} | 2");
        p.query(1, "$", "[3]");
        p.patch(1, "[{\"op\":\"remove\",\"path\":\"/0\"}]", 0);
        p.due("shown after a patch", p.shown(), "[3]");
        p.text(1, "[]");
    }

    private static void depthAndCount() {
        Probe p = new Probe("depth and count");
        String[] texts = {"null", "true", "-5", "\"[[\"", "[]", "{}", "[1]", "[[]]", "[1,[2,{\"a\":3}],4]", "{\"a\":{},\"b\":[[[]]]}",
            "[[[[[[[[1]]]]]]]]"};
        int[] depths = {0, 0, 0, 0, 1, 1, 1, 2, 3, 4, 8};
        int[] counts = {1, 1, 1, 1, 1, 1, 2, 2, 7, 5, 9};
        for (int i = 0; i < texts.length; i++) {
            p.put(2, texts[i], 0);
            p.due("depth of " + texts[i], p.store.depth(2), depths[i]);
            p.due("count of " + texts[i], p.store.count(2), counts[i]);
        }
        p.patch(2, "[{\"op\":\"remove\",\"path\":\"/0/0/0\"}]", 0);
        p.due("depth after a remove", p.store.depth(2), 3);
        p.due("count after a remove", p.store.count(2), 3);
        p.patch(2, "[{\"op\":\"copy\",\"from\":\"/0\",\"path\":\"/0/0/0\"}]", 0);
        p.due("depth after a copy", p.store.depth(2), 5);
        p.due("count after a copy", p.store.count(2), 5);
        for (int d : new int[] {-1, 0, 1, 3, Integer.MIN_VALUE, Integer.MAX_VALUE}) {
            p.due("depth(" + d + ")", p.store.depth(d), -1);
            p.due("count(" + d + ")", p.store.count(d), 0);
        }
    }
}
