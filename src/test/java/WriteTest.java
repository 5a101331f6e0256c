/** Promises 2 and 11: write and draft. */
public final class WriteTest {
    public static void main(String[] args) {
        bytesFromTheHighestOn();
        refusedCodes();
        roomForThem();
        allThatReadTakeIt();
        Probe.end();
    }

    private static void bytesFromTheHighestOn() {
        Probe p = new Probe("order");
        p.due("write", p.store.write(0x2200610062002200L), true);
        p.due("draft", p.store.draft(), 4);
        p.put(0, "", 0);
        p.text(0, "\"ab\"");
        p.due("write nothing", p.store.write(0), true);
        p.due("draft", p.store.draft(), 0);
        p.due("write blanks and tildes", p.store.write(0x2220207E7E202022L), true);
        p.due("draft", p.store.draft(), 8);
        p.put(0, "", 0);
        p.text(0, "\"  ~~  \"");
        p.write("[1").write(", 2").write("]");
        p.due("draft", p.store.draft(), 6);
        p.put(0, "", 0);
        p.text(0, "[1,2]");
    }

    private static void refusedCodes() {
        Probe p = new Probe("codes");
        p.write("7");
        long[] refused = {1, 9, 10, 31, 127, 128, 255, 0x3130303030303001L, 0x7F30303030303030L, 0x3000001F00000030L,
            Long.MIN_VALUE, -1};
        for (long w : refused) {
            p.due("write(" + w + ")", p.store.write(w), false);
            p.due("draft", p.store.draft(), 1);
        }
        p.due("write a blank", p.store.write(32), true);
        p.due("draft", p.store.draft(), 2);
        p.put(1, "", 0);
        p.text(1, "7");
    }

    private static void roomForThem() {
        Probe p = new Probe("room");
        p.write("[" + " ".repeat(156));
        p.due("draft", p.store.draft(), 157);
        p.due("four more", p.store.write(Probe.packed("1234")), false);
        p.due("eight more", p.store.write(Probe.packed("12345678")), false);
        p.due("draft", p.store.draft(), 157);
        p.due("two more", p.store.write(Probe.packed("12")), true);
        p.due("two more", p.store.write(Probe.packed("3]")), false);
        p.due("one more", p.store.write(0x005D000000000000L), true);
        p.due("draft", p.store.draft(), 160);
        p.due("one more", p.store.write(Probe.packed("3")), false);
        p.due("nothing more", p.store.write(0), true);
        p.due("draft", p.store.draft(), 160);
        p.put(2, "", 0);
        p.text(2, "[12]");
        p.write("8");
        p.due("draft", p.store.draft(), 1);
    }

    private static void allThatReadTakeIt() {
        Probe p = new Probe("taking");
        p.put(0, "5", 0);
        p.put(3, "5", -1);
        p.put(-1, "5", -1);
        p.put(1, "x", 1);
        p.patch(1, "[]", -1);
        p.patch(4, "[]", -1);
        p.patch(0, "x", 1);
        p.queryAnswers(1, "$", -1);
        p.queryAnswers(-2, "$", -1);
        p.queryAnswers(0, "x", -2);
        p.write("12");
        p.store.delete(0);
        p.store.commit();
        p.store.length(0);
        p.due("draft, that nothing took", p.store.draft(), 2);
    }
}
