/** Promises 9, 14 and 15, at their edges: results that stay, and crashes before and after commits. */
public final class CrashEdgesTest {
    public static void main(String[] args) {
        noResultsBeforeTheFirstQuery();
        resultsStayWhenDocumentsChange();
        resultsOfRefusedQueries();
        crashBeforeTheFirstCommit();
        crashAfterLaterChanges();
        theLatestCommit();
        commitOfWhatIsNotThere();
        refusedCallsAndCommits();
        draftAndResultsAfterACrash();
        Probe.end();
    }

    private static void noResultsBeforeTheFirstQuery() {
        Probe p = new Probe("0 before the first query");
        p.due("results", p.store.results(), 0);
        p.put(0, "[1]", 0);
        p.patch(0, Op.add("/-", "2"), 0);
        p.store.commit();
        p.queryAnswers(0, "x", -2);
        p.queryAnswers(1, "$", -1);
        p.due("results", p.store.results(), 0);
        p.due("shown", p.store.shown(0, 0), -1);
    }

    private static void resultsStayWhenDocumentsChange() {
        String due = "{\"a\":[1,{\"b\":2}],\"c\":3} | [1,{\"b\":2}] | 3 | 1 | {\"b\":2} | 2";
        String[] patches = {Op.add("/0/a/0", "7"), Op.remove("/0/c"), Op.replace("/0/a/1/b", "[8]"), Op.move("/0/a", "/0/d"),
            Op.copy("/0/a", "/0/a/-"), Op.add("", "9"), Op.replace("/0/a/0", "{}")};
        for (String patch : patches) {
            Probe p = new Probe("results stay as they were when documents change");
            p.put(0, "[{\"a\":[1,{\"b\":2}],\"c\":3}]", 0);
            p.query(0, "$..*", due);
            p.patch(0, patch, 0);
            p.due("results after " + patch, p.shown(), due);
            p.put(0, "[5]", 0);
            p.store.delete(0);
            p.store.commit();
            p.due("results after put, delete and commit", p.shown(), due);
        }
    }

    private static void resultsOfRefusedQueries() {
        Probe p = new Probe("results stay");
        p.put(0, "[1,2,3]", 0);
        p.query(0, "$[1:]", "2 | 3");
        p.queryAnswers(0, "$[", -2);
        p.queryAnswers(0, "", -2);
        p.queryAnswers(0, "$[" + "*,".repeat(13) + "*]", -4);
        p.queryAnswers(1, "$", -1);
        p.queryAnswers(3, "$", -1);
        p.queryAnswers(-1, "$", -1);
        p.due("results", p.shown(), "2 | 3");
        p.query(0, "$[7]", "");
        p.due("an empty list is the results then", p.store.results(), 0);
        p.due("shown", p.store.shown(0, 0), -1);
        p.query(0, "$[0]", "1");
        p.query(0, "$[" + "*,".repeat(12) + "*]", "1 | 2 | 3 | ".repeat(12) + "1 | 2 | 3");
        p.query(0, "$[2]", "3");
        p.due("shown", p.store.shown(1, 0), -1);
    }

    private static void crashBeforeTheFirstCommit() {
        Probe p = new Probe("not there, when there was none");
        p.store.crash();
        notThere(p);
        p.put(0, "[1]", 0);
        p.put(1, "2", 0);
        p.put(2, "{}", 0);
        p.patch(0, Op.add("/-", "2"), 0);
        p.store.crash();
        notThere(p);
        p.store.crash();
        notThere(p);
        p.put(1, "[3]", 0);
        p.text(1, "[3]");
    }

    private static void notThere(Probe p) {
        for (int d = 0; d < 3; d++) {
            p.text(d, null);
            p.due("depth", p.store.depth(d), -1);
            p.due("count", p.store.count(d), 0);
            p.due("delete", p.store.delete(d), false);
            p.patch(d, "[]", -1);
            p.queryAnswers(d, "$", -1);
        }
    }

    private static void crashAfterLaterChanges() {
        String[] changes = {Op.add("/a/0", "7"), Op.remove("/a/0"), Op.replace("/a", "7"), Op.move("/a", "/c"), Op.copy("/a", "/a/0"),
            Op.add("", "7")};
        for (String change : changes) {
            Probe p = new Probe("the documents are as at the latest commit");
            p.put(0, "{\"a\":[1,2],\"b\":{}}", 0);
            p.store.commit();
            p.patch(0, change, 0);
            p.store.crash();
            asCommitted(p);
            // The committed document is not the one that was changed, and is there for each later crash.
            p.patch(0, change, 0);
            p.put(1, "8", 0);
            p.store.crash();
            asCommitted(p);
            p.store.delete(0);
            p.store.crash();
            asCommitted(p);
            p.put(0, "9", 0);
            p.store.crash();
            asCommitted(p);
        }
    }

    private static void asCommitted(Probe p) {
        p.text(0, "{\"a\":[1,2],\"b\":{}}");
        p.due("depth", p.store.depth(0), 2);
        p.due("count", p.store.count(0), 5);
        p.text(1, null);
        p.text(2, null);
    }

    private static void theLatestCommit() {
        Probe p = new Probe("as at the latest commit");
        p.put(0, "[1]", 0);
        p.store.commit();
        p.patch(0, Op.add("/-", "2"), 0);
        p.put(1, "[3]", 0);
        p.store.commit();
        p.patch(0, Op.add("/-", "4"), 0);
        p.patch(1, Op.remove("/0"), 0);
        p.store.crash();
        p.text(0, "[1,2]");
        p.text(1, "[3]");
        p.store.commit();
        p.store.crash();
        p.text(0, "[1,2]");
        p.text(1, "[3]");
        p.put(2, "5", 0);
        p.store.commit();
        p.store.commit();
        p.store.crash();
        p.store.crash();
        p.text(0, "[1,2]");
        p.text(2, "5");
    }

    private static void commitOfWhatIsNotThere() {
        Probe p = new Probe("what the documents are now is what a crash leaves");
        p.store.commit();
        p.put(0, "[1]", 0);
        p.store.crash();
        p.text(0, null);
        p.put(0, "[1]", 0);
        p.put(2, "[2]", 0);
        p.store.commit();
        p.store.delete(0);
        p.store.commit();
        p.put(0, "[3]", 0);
        p.store.crash();
        p.text(0, null);
        p.text(2, "[2]");
        p.due("delete", p.store.delete(0), false);
    }

    private static void refusedCallsAndCommits() {
        Probe p = new Probe("a commit keeps what was done, not what was refused");
        p.put(0, "[1]", 0);
        p.put(0, "[2", 1);
        p.patch(0, Op.all(Op.add("/-", "2"), Op.remove("/9")), 6);
        p.store.commit();
        p.text(0, "[1]");
        p.store.crash();
        p.text(0, "[1]");
    }

    private static void draftAndResultsAfterACrash() {
        Probe p = new Probe("the draft is empty, there are no results");
        p.put(0, "[1,2]", 0);
        p.store.commit();
        p.query(0, "$.*", "1 | 2");
        p.write("[3");
        p.due("draft", p.store.draft(), 2);
        p.store.crash();
        p.due("draft", p.store.draft(), 0);
        p.due("results", p.store.results(), 0);
        p.due("shown", p.store.shown(0, 0), -1);
        p.put(1, "4", 0);
        p.text(1, "4");
        p.write(" ".repeat(160));
        p.store.crash();
        p.write("[" + " ".repeat(158) + "]");
        p.due("draft", p.store.draft(), 160);
        p.put(1, "", 0);
        p.text(1, "[]");
        p.query(0, "$[0]", "1");
        p.text(0, "[1,2]");
    }
}
