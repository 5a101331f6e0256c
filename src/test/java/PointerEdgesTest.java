/** What "Terms" says of pointers, at its edges: each label is the sentence that would be broken. */
public final class PointerEdgesTest {
    private static final String ELEVEN = "[0,1,2,3,4,5,6,7,8,9,10]";

    public static void main(String[] args) {
        noStep();
        beginsWithASlash();
        emptySteps();
        tildes();
        whatElseStandsAfterATilde();
        everyCharacterOfAStep();
        numbersOfElements();
        numbersThatAreNone();
        numbersAsNames();
        hyphens();
        leadsNowhere();
        Probe.end();
    }

    /** The pointer leads to a value equal to this one. */
    private static void leads(String label, String document, String pointer, String value) {
        Probe.patched(label, document, Op.test(pointer, value), document);
    }

    private static void lost(String label, String document, String pointer) {
        Probe.unpatched(label, document, Op.test(pointer, "7"), 6);
        Probe.unpatched(label, document, Op.remove(pointer), 6);
        Probe.unpatched(label, document, Op.replace(pointer, "7"), 6);
        Probe.unpatched(label, document, Op.copy(pointer, ""), 6);
        Probe.unpatched(label, document, Op.move(pointer, ""), 6);
    }

    /** No pointer, neither as path nor as from. */
    private static void unfit(String label, String pointer) {
        String document = "{\"a\":1}";
        Probe.unpatched(label, document, Op.test(pointer, "1"), 5);
        Probe.unpatched(label, document, Op.add(pointer, "1"), 5);
        Probe.unpatched(label, document, Op.remove(pointer), 5);
        Probe.unpatched(label, document, Op.replace(pointer, "1"), 5);
        Probe.unpatched(label, document, Op.copy(pointer, "/a"), 5);
        Probe.unpatched(label, document, Op.copy("/a", pointer), 5);
        Probe.unpatched(label, document, Op.move(pointer, "/a"), 5);
        Probe.unpatched(label, document, Op.move("/a", pointer), 5);
    }

    private static void noStep() {
        String label = "POINTERS are strings: nothing, or one or more steps";
        for (String document : new String[] {"null", "7", "\"\"", "[]", "{}", "[1]", "{\"\":1}"}) {
            leads(label, document, "", document);
        }
        Probe.patched(label, "[1]", Op.add("", "2"), "2");
        Probe.patched(label, "[1]", Op.copy("", "/0"), "[[1],1]");
    }

    private static void beginsWithASlash() {
        String label = "each step is a / and the characters up to the next / or the end";
        for (String wrong : new String[] {"a", "a/", "a/b", " /a", "0", "-", "~0", "~1", "~1a", "#/a", "$", "."}) {
            unfit(label, wrong);
        }
        leads(label, "{\"a\":{\"b\":{\"c\":7}}}", "/a/b/c", "7");
        leads(label, "{\"a\":{\"b\":{\"c\":7}}}", "\\/a\\/b", "{\"c\":7}");
        leads(label, "[[],[[],[1,7]]]", "/1/1/1", "7");
        leads(label, "{\"a\":[{\"b\":7}]}", "/a/0/b", "7");
    }

    private static void emptySteps() {
        String label = "a step may have no characters: the name is the empty one";
        String document = "{\"\":{\"\":{\"\":7},\"a\":8},\"a\":{\"\":9}}";
        leads(label, document, "/", "{\"\":{\"\":7},\"a\":8}");
        leads(label, document, "//", "{\"\":7}");
        leads(label, document, "///", "7");
        leads(label, document, "//a", "8");
        leads(label, document, "/a/", "9");
        lost(label, document, "////");
        lost(label, document, "/a//");
        lost(label, "{\"a\":1}", "/");
        lost(label, "{\"a\":1}", "/a/");
        lost(label, "[1]", "/");
        lost(label, "7", "/");
        Probe.patched(label, "{}", Op.add("/", "1"), "{\"\":1}");
        Probe.unpatched(label, "[1]", Op.add("/", "1"), 6);
    }

    private static void tildes() {
        String label = "~1 means / and ~0 means ~";
        String document = "{\"/\":1,\"~\":2,\"~1\":3,\"~0\":4,\"/0\":5,\"//\":6,\"~~\":7,\"a/b\":8,\"~/\":9,\"/~\":10}";
        String[] pointers = {"/~1", "/~0", "/~01", "/~00", "/~10", "/~1~1", "/~0~0", "/a~1b", "/~0~1", "/~1~0"};
        for (int i = 0; i < pointers.length; i++) {
            leads(label, document, pointers[i], "" + (i + 1));
        }
        Probe.patched(label, "{}", Op.add("/~01~10", "1"), "{\"~1/0\":1}");
        lost(label, "{\"a\":{\"b\":1}}", "/a~1b");
        lost(label, "{\"a/b\":1}", "/a/b");
    }

    private static void whatElseStandsAfterATilde() {
        String label = "after ~ nothing else may stand";
        for (char c : Probe.everyCharacter().toCharArray()) {
            String written = c == '"' || c == '\\' ? "\\" + c : "" + c;
            if (c != '0' && c != '1') {
                unfit(label, "/a~" + written);
            }
        }
        for (String wrong : new String[] {"/~", "/a~", "/~/a", "/a/~", "/~0~", "/~1~", "/~~0", "/~~1", "/~0/~2", "/~01~a", "/0/~"}) {
            unfit(label, wrong);
        }
    }

    private static void everyCharacterOfAStep() {
        String label = "in an object to the value of the member with that name";
        for (char c : Probe.everyCharacter().toCharArray()) {
            String written = c == '"' || c == '\\' ? "\\" + c : "" + c;
            String step = c == '~' ? "~0" : c == '/' ? "~1" : written;
            leads(label, "{\"\":1,\"" + written + "\":7,\"" + written + "x\":2}", "/" + step, "7");
        }
        lost(label, "{\"a\":1}", "/A");
        lost(label, "{\"a\":1}", "/aa");
        lost(label, "{\"aa\":1}", "/a");
    }

    private static void numbersOfElements() {
        String label = "in an array to the element with that number (from 0)";
        for (int i = 0; i <= 10; i++) {
            leads(label, ELEVEN, "/" + i, "" + i);
        }
        lost(label, ELEVEN, "/11");
        lost(label, ELEVEN, "/12");
        lost(label, "[]", "/0");
        lost(label, "[1]", "/1");
        leads(label, "[1]", "/0", "1");
    }

    private static void numbersThatAreNone() {
        String label = "0, or digits of which the first is not 0, at most 3";
        for (String step : new String[] {"00", "01", "010", "000", "0001", "-0", "-1", "-", "+1", " 1", "1 ", "1a", "a1", "a", "1.0", "1e0",
            "0x1", ":", "100", "999", "1000", "9999", "256", "65536", "4294967296", "4294967297", "18446744073709551616"}) {
            lost(label, ELEVEN, "/" + step);
            if (!step.equals("-")) {
                Probe.unpatched(label, ELEVEN, Op.add("/" + step, "7"), 6);
            }
        }
    }

    private static void numbersAsNames() {
        String label = "in an object a step is a name, whatever its characters";
        for (String name : new String[] {"0", "00", "01", "-", "-1", "999", "1000", "4294967296", " "}) {
            leads(label, "{\"" + name + "\":7}", "/" + name, "7");
            Probe.patched(label, "{}", Op.add("/" + name, "7"), "{\"" + name + "\":7}");
        }
        lost(label, "{\"0\":7}", "/00");
        lost(label, "{\"1\":7}", "/0");
    }

    private static void hyphens() {
        String label = "in an array a hyphen leads nowhere: it is only for add";
        lost(label, "[]", "/-");
        lost(label, "[1,2]", "/-");
        lost(label, "[1,[2]]", "/-/0");
        Probe.unpatched(label, "[1,[2]]", Op.add("/-/0", "7"), 6);
        Probe.unpatched(label, "[1,2]", Op.add("/--", "7"), 6);
        Probe.patched(label, "[1,2]", Op.add("/-", "7"), "[1,2,7]");
    }

    private static void leadsNowhere() {
        String label = "it leads nowhere if there is none";
        for (String value : new String[] {"null", "true", "false", "0", "\"0\"", "\"\""}) {
            lost(label, value, "/0");
            lost(label, "[" + value + "]", "/0/0");
            lost(label, "{\"0\":" + value + "}", "/0/0");
        }
        lost(label, "{\"a\":{}}", "/b/a");
        lost(label, "{\"a\":{}}", "/a/a/a");
        lost(label, "[[]]", "/1/0");
        lost(label, "[[]]", "/0/0/0/0/0/0/0/0/0/0/0/0/0/0/0/0/0/0/0/0");
    }
}
