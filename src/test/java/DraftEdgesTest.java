/** What "Terms" and promises 2 and 11 say of the draft, at its edges, and how put and patch read it. */
public final class DraftEdgesTest {
    public static void main(String[] args) {
        atMost160Characters();
        everyByteInEveryPlace();
        fromTheHighestOn();
        takenWhateverPutAnswers();
        takenWhateverPatchAnswers();
        takenWhateverQueryAnswers();
        takenByNothingElse();
        endsWhenSomethingIsMissing();
        characterThatCannotStandThere();
        deepForPut();
        deepForPatch();
        twiceAtTheEndOfTheName();
        numberThatIsTooGreat();
        whatStopsFirst();
        fullOnlyWhenAllIsRead();
        Probe.end();
    }

    private static void atMost160Characters() {
        for (int before = 150; before <= 160; before++) {
            for (int more = 0; more <= 8; more++) {
                Probe p = new Probe("false, changing nothing, when they are more than there is room for");
                p.write("1" + " ".repeat(before - 1));
                boolean fits = before + more <= 160;
                p.due(before + " and " + more + " more", p.store.write(Probe.packed(" ".repeat(more))), fits);
                p.due("draft", p.store.draft(), fits ? before + more : before);
                p.put(0, "", 0);
                p.text(0, "1");
            }
        }
        Probe p = new Probe("a text of at most 160 characters");
        p.write("\"" + "ab".repeat(79) + "\"");
        p.due("draft", p.store.draft(), 160);
        p.due("one more", p.store.write('x'), false);
        p.due("none more", p.store.write(0), true);
        // A refused write may be for its codes, for its length, or for both.
        p.due("codes and length", p.store.write(-1), false);
        p.put(0, "", 0);
        p.text(0, "\"" + "ab".repeat(79) + "\"");
    }

    private static void everyByteInEveryPlace() {
        for (int place = 0; place < 64; place += 8) {
            for (long code = 0; code <= 255; code++) {
                boolean fits = code == 0 || code >= 32 && code <= 126;
                int length = code == 0 || !fits ? 0 : 1;
                Probe p = new Probe("false, changing nothing, when one of the others is not 32 .. 126");
                p.due("write of " + code + " alone", p.store.write(code << place), fits);
                p.due("draft", p.store.draft(), length);
                long ones = 0x3131313131313131L & ~(255L << place);
                p.due("write of " + code + " among others", p.store.write(ones | code << place), fits);
                p.due("draft", p.store.draft(), fits ? 7 + 2 * length : 0);
            }
        }
    }

    private static void fromTheHighestOn() {
        Probe p = new Probe("the eight bytes of w from the highest on, but for those that are 0");
        p.due("write", p.store.write(0x2261626364656622L), true);
        p.put(0, "", 0);
        p.text(0, "\"abcdef\"");
        p.due("write", p.store.write(0x0022000061006200L), true);
        p.due("write", p.store.write(0), true);
        p.due("write", p.store.write(0x6300000000000022L), true);
        p.due("draft", p.store.draft(), 5);
        p.put(0, "", 0);
        p.text(0, "\"abc\"");
        // The highest byte is the one with the sign.
        p.due("write", p.store.write(0x8000000000000031L), false);
        p.due("write", p.store.write(0x7E00000000000000L), true);
        p.due("draft", p.store.draft(), 1);
        p.put(0, "", 1);
    }

    private static Probe small() {
        Probe p = new Probe("it is empty then, whatever they answer", 2, 9);
        p.put(0, "[0,1,2,3,4,5,6,7]", 0);
        return p;
    }

    /** Were anything left of the draft, this would not be read as it is due. */
    private static void nothingIsLeft(Probe p) {
        p.due("draft", p.store.draft(), 0);
        p.put(2, "7", 0);
        p.text(2, "7");
        p.text(0, "[0,1,2,3,4,5,6,7]");
    }

    private static void takenWhateverPutAnswers() {
        String[] drafts = {"12", "", "x", "[", "[[[", "{\"a\":1,\"a\":1}", "[0,1,2,3,4,5,6,7,8]"};
        int[] answers = {0, 1, 1, 1, 2, 3, 4};
        for (int i = 0; i < drafts.length; i++) {
            Probe p = small();
            p.put(1, drafts[i], answers[i]);
            nothingIsLeft(p);
            for (int d : new int[] {-1, 3}) {
                p.put(d, drafts[i], -1);
                nothingIsLeft(p);
            }
        }
    }

    private static void takenWhateverPatchAnswers() {
        String[] drafts = {"[]", "", "x", "[", "[[[[[", "[{\"a\":1,\"a\":1}]", Op.add("/-", "8"), "[1]", Op.remove("/8"),
            Op.test("/0", "1"), Op.copy("", "/-"), Op.replace("/7", "[[]]")};
        int[] answers = {0, 1, 1, 1, 2, 3, 4, 5, 6, 7, 4, 2};
        for (int i = 0; i < drafts.length; i++) {
            Probe p = small();
            p.patch(0, drafts[i], answers[i]);
            nothingIsLeft(p);
            for (int d : new int[] {-1, 1, 3}) {
                p.patch(d, drafts[i], -1);
                nothingIsLeft(p);
            }
        }
    }

    private static void takenWhateverQueryAnswers() {
        String[] drafts = {"$", "$.a", "", "x", "$[", "$[*,*,*,*,*,*]"};
        int[] answers = {1, 0, -2, -2, -2, -4};
        for (int i = 0; i < drafts.length; i++) {
            Probe p = small();
            p.queryAnswers(0, drafts[i], answers[i]);
            nothingIsLeft(p);
            for (int d : new int[] {-1, 1, 3}) {
                p.queryAnswers(d, drafts[i], -1);
                nothingIsLeft(p);
            }
        }
    }

    private static void takenByNothingElse() {
        Probe p = small();
        p.query(0, "$[0]", "0");
        p.write("[1,2");
        p.store.length(0);
        p.store.letter(0, 0);
        p.store.results();
        p.store.shown(0, 0);
        p.store.draft();
        p.store.depth(0);
        p.store.count(0);
        p.store.commit();
        p.store.delete(0);
        p.store.delete(-1);
        p.due("draft", p.store.draft(), 4);
        p.put(0, "]", 0);
        p.text(0, "[1,2]");
    }

    private static void endsWhenSomethingIsMissing() {
        String label = "they stop at its end, when something is missing: SYNTAX";
        String value = "{\"a\":[12,-3,\"x\\\\y\",null],\"b\":{\"a\":true,\"c\":false}}";
        for (int end = 0; end < value.length(); end++) {
            Probe.unread(label, value.substring(0, end), 1);
            Probe.unread(label, value.substring(0, end) + "  ", 1);
        }
        Probe.read(label, value, value);
        String patch = Op.all(Op.add("/-", "[8,{\"a\":-9}]"), Op.move("/0", "/1"));
        for (int end = 0; end < patch.length(); end++) {
            Probe.unpatched(label, "[7]", patch.substring(0, end), 1);
        }
        Probe.patched(label, "[7]", patch, "[[8,{\"a\":-9}],7]");
    }

    private static void characterThatCannotStandThere() {
        String label = "they stop at the first character that can't stand there: SYNTAX";
        // Each character stands alone: only a digit is a value.
        for (char c : Probe.everyCharacter().toCharArray()) {
            if (c < '0' || c > '9') {
                Probe.unread(label, "" + c, 1);
            }
            // Behind a value nothing but a blank may stand.
            if (c != ' ') {
                Probe.unread(label, "[]" + c, 1);
                Probe.unread(label, "null" + c, 1);
                Probe.unread(label, "\"\"" + c, 1);
                Probe.unpatched(label, "[7]", "[]" + c, 1);
            }
            if (c != ' ' && (c < '0' || c > '9')) {
                Probe.unread(label, "1" + c, 1);
            }
            if (c != ' ' && c != ',' && c != ']') {
                Probe.unread(label, "[[]" + c + "]", 1);
            }
            if (c != ' ' && c != '"' && c != '}') {
                Probe.unread(label, "{" + c, 1);
            }
            if (c != ' ' && c != ':') {
                Probe.unread(label, "{\"a\"" + c + "1}", 1);
            }
        }
    }

    private static void deepForPut() {
        for (int limit = 1; limit <= 8; limit++) {
            Probe p = new Probe("at a [ or { that would be the LIMIT + 1-th open one: DEEP", limit, 32);
            p.put(0, "[".repeat(limit), 1);
            p.put(0, "[".repeat(limit) + "]".repeat(limit), 0);
            p.put(0, "[".repeat(limit + 1), 2);
            p.put(0, "[".repeat(limit) + "{", 2);
            p.put(0, "{\"\":".repeat(limit), 1);
            p.put(0, "{\"\":".repeat(limit) + "[", 2);
            p.put(0, "{\"\":".repeat(limit) + "{", 2);
            p.put(0, "[".repeat(limit) + "]".repeat(limit) + "[", 1);
            p.put(0, "[".repeat(limit) + "\"[{\"" + "]".repeat(limit), 0);
            // Only open ones count: here are many, but never more than LIMIT at once.
            p.put(0, "[".repeat(limit) + "]".repeat(limit), 0);
            p.put(0, limit == 1 ? "[]" : "[[],{},[],{},[],{},[],{},[],{}]", 0);
        }
    }

    private static void deepForPatch() {
        for (int limit = 1; limit <= 8; limit++) {
            Probe p = new Probe("for patch: the LIMIT + 3-rd: DEEP", limit, 32);
            p.put(0, "[]", 0);
            p.patch(0, "[".repeat(limit + 2), 1);
            p.patch(0, "[".repeat(limit + 2) + "]".repeat(limit + 2), 5);
            p.patch(0, "[".repeat(limit + 3), 2);
            p.patch(0, "[".repeat(limit + 2) + "{", 2);
            p.patch(0, "[{\"value\":" + "[".repeat(limit) + "x", 1);
            p.patch(0, "[{\"value\":" + "[".repeat(limit + 1) + "x", 2);
            p.patch(0, Op.add("", "[".repeat(limit) + "]".repeat(limit)), 0);
            p.due("depth", p.store.depth(0), limit);
            p.patch(0, Op.add("", "[".repeat(limit + 1) + "]".repeat(limit + 1)), 2);
            // Members that mean nothing are read as well.
            p.patch(0, "[{\"op\":\"test\",\"path\":\"\",\"value\":1,\"x\":" + "[".repeat(limit + 1) + "]".repeat(limit + 1) + "}]", 2);
            p.due("depth", p.store.depth(0), limit);
        }
    }

    private static void twiceAtTheEndOfTheName() {
        String label = "at the end of a name that the object has already: TWICE";
        Probe.unread(label, "{\"ab\":1,\"a", 1);
        Probe.unread(label, "{\"ab\":1,\"ab", 1);
        Probe.unread(label, "{\"ab\":1,\"ab\"", 3);
        Probe.unread(label, "{\"ab\":1,\"ab\"x", 3);
        Probe.unread(label, "{\"ab\":1,\"ab\" x", 3);
        Probe.unread(label, "{\"ab\":1,\"ab\"}", 3);
        Probe.unread(label, "{\"ab\":1,\"ab\\x\"", 1);
        Probe.unread(label, "{\"ab\":1,\"a\"", 1);
        Probe.unread(label, "{\"ab\":1,\"abc\"", 1);
        Probe.unread(label, "{\"ab\":1,\"\":2,\"\"", 3);
        Probe.unread(label, "{\"ab\":{\"ab\":1},\"ab\"", 3);
        Probe.unread(label, "{\"ab\":{\"x\":1},\"x\":2,\"x\"", 3);
        // The object has the name only once the member before it is whole.
        Probe.unread(label, "{\"ab\":{\"ab\"", 1);
        Probe.unpatched(label, "{}", "[{\"op\":\"remove\",\"op\"", 3);
        Probe.unpatched(label, "{}", "[{\"op\":1},{\"x\":[{\"y\":1,\"y\"", 3);
    }

    private static void numberThatIsTooGreat() {
        String label = "at the end of a number that is too great: SYNTAX";
        String great = "9223372036854775808";
        for (String draft : new String[] {great, great + " ", great + "0", great + "x", "[" + great, "[" + great + "]",
            "[1," + great + ",[[[[[[[[[", "{\"a\":" + great + ",\"a\":1}", "{\"a\":1,\"b\":" + great + ",\"a\":1}", "-9223372036854775809",
            "[-9223372036854775809,[[[[[[[[["}) {
            Probe.unread(label, draft, 1);
            Probe.unpatched(label, "[7]", draft, 1);
        }
    }

    private static void whatStopsFirst() {
        String[] drafts = {"[[[x", "[x[[[", "[[1,x],[[[", "[[1[", "[[],x", "[[]x[[[", "{\"a\":1,\"a\":[[[", "{\"a\":1,\"a\"[[[",
            "{\"a\":[[[],\"a\":1", "{\"a\":[[[", "{\"a\":[],\"a\":[[[", "{\"a\":x,\"a\":1}", "{\"a\":1 \"a\":1}", "{\"a\":1,x\"a\"", "{[[[",
            "{\"a\"[[[", "{\"a\":1[[[", "{\"a\":1,\"b\":{\"c\":{", "{\"a\":1,\"b\":{\"c\":1,\"c\"", "[9999999999999999999,[[[",
            "[[[9999999999999999999", "{\"a\":1,\"a\":9999999999999999999", "[] [[[", "[]{\"a\":1,\"a\"", "1[[["};
        int[] answers = {2, 1, 1, 1, 1, 1, 3, 3, 2, 2, 3, 1, 1, 1, 1, 1, 1, 2, 3, 1, 2, 3, 1, 1, 1};
        for (int i = 0; i < drafts.length; i++) {
            Probe p = new Probe("SYNTAX, DEEP and TWICE, where the reading stops first", 2, 32);
            p.put(0, "[7]", 0);
            p.put(0, drafts[i], answers[i]);
            p.text(0, "[7]");
        }
    }

    private static void fullOnlyWhenAllIsRead() {
        Probe p = new Probe("1, 2 or 3 as it was read; 4 when its count is above ROOM", 2, 3);
        p.put(0, "[1,2]", 0);
        p.put(0, "[1,2,3]", 4);
        p.put(0, "[1,2,3,4,5,6,7", 1);
        p.put(0, "[1,2,3,4,5,6,7]]", 1);
        p.put(0, "[1,2,3,4,5,6,[[", 2);
        p.put(0, "[1,2,3,4,5,{\"a\":1,\"a\"", 3);
        p.text(0, "[1,2]");
    }
}
