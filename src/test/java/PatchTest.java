/** Promise 4: patch. */
public final class PatchTest {
    public static void main(String[] args) {
        answersBeforeAnyOperation();
        unfit();
        pointers();
        add();
        remove();
        replace();
        copy();
        move();
        test();
        deepAndFull();
        whollyOrNotAtAll();
        Probe.end();
    }

    /** Does the patch on a document of its own. */
    private static void done(String document, String patch, String due) {
        Probe p = new Probe("patch of " + document);
        p.put(1, document, 0);
        p.patch(1, patch, 0);
        p.text(1, due);
    }

    private static void refused(String document, String patch, int due) {
        Probe p = new Probe("patch of " + document);
        p.put(1, document, 0);
        p.patch(1, patch, due);
        p.text(1, document);
    }

    private static String op(String op, String path, String rest) {
        return "{\"op\":\"" + op + "\",\"path\":\"" + path + "\"" + rest + "}";
    }

    private static String add(String path, String value) {
        return "[" + op("add", path, ",\"value\":" + value) + "]";
    }

    private static String remove(String path) {
        return "[" + op("remove", path, "") + "]";
    }

    private static String replace(String path, String value) {
        return "[" + op("replace", path, ",\"value\":" + value) + "]";
    }

    private static String move(String from, String path) {
        return "[" + op("move", path, ",\"from\":\"" + from + "\"") + "]";
    }

    private static String copy(String from, String path) {
        return "[" + op("copy", path, ",\"from\":\"" + from + "\"") + "]";
    }

    private static String test(String path, String value) {
        return "[" + op("test", path, ",\"value\":" + value) + "]";
    }

    private static void answersBeforeAnyOperation() {
        Probe p = new Probe("reading a patch", 2, 3);
        p.patch(0, "[]", -1);
        p.patch(3, "[]", -1);
        p.patch(-1, "[", -1);
        p.put(0, "[1,2]", 0);
        p.patch(0, "", 1);
        p.patch(0, "[", 1);
        p.patch(0, "[{}", 1);
        p.patch(0, "[{\"op\":\"add\",\"op\"", 3);
        p.patch(0, "[[[[[", 2);
        p.patch(0, "[[[[]]]]", 5);
        p.patch(0, "[{\"a\":[[[", 2);
        p.patch(0, "[{\"a\":[[1]]}]", 5);
        p.patch(0, "[1,2,3,4,5,6]", 5);
        p.patch(0, " [ ] ", 0);
        p.patch(0, "[] x", 1);
        p.text(0, "[1,2]");
    }

    private static void unfit() {
        for (String patch : new String[] {"1", "\"add\"", "null", "{}", "[1]", "[[]]", "[\"add\"]", "[{}]",
            "{\"op\":\"remove\",\"path\":\"/a\"}", "[{\"op\":\"remove\"}]", "[{\"path\":\"/a\"}]",
            "[{\"op\":\"Remove\",\"path\":\"/a\"}]", "[{\"op\":\"\",\"path\":\"/a\"}]", "[{\"op\":null,\"path\":\"/a\"}]",
            "[{\"op\":[\"remove\"],\"path\":\"/a\"}]", "[{\"op\":\"remove\",\"path\":null}]", "[{\"op\":\"remove\",\"path\":1}]",
            "[{\"op\":\"remove\",\"path\":[]}]", remove("a"), remove("a/"), remove(" /a"), remove("/~"), remove("/a~"),
            remove("/~2"), remove("/~~0"), remove("/~/a"), remove("/a/~a"), remove("~0"), "[" + op("add", "/b", "") + "]",
            "[" + op("replace", "/a", "") + "]", "[" + op("test", "/a", "") + "]", "[" + op("move", "/b", "") + "]",
            "[" + op("copy", "/b", "") + "]", "[" + op("copy", "/b", ",\"from\":1") + "]", move("a", "/b"), copy("/~3", "/b"),
            move("/a", "b"), "[" + op("move", "/b", ",\"value\":1") + "]", "[" + op("add", "/b", ",\"from\":\"/a\"") + "]",
            "[" + op("remove", "/a", "") + ",{\"op\":\"remove\"}]", "[" + op("remove", "/lost", "") + ",1]",
            "[" + op("test", "/a", ",\"value\":2") + ",{}]"}) {
            refused("{\"a\":1}", patch, 5);
        }
        Probe p = new Probe("unfit");
        p.put(0, "{\"a\":1}", 0);
        p.patch(0, "[{\"x\":[],\"path\":\"/a\",\"from\":7,\"value\":\"~\",\"op\":\"remove\"}]", 0);
        p.text(0, "{}");
        p.patch(0, "[" + op("add", "/b", ",\"value\":null,\"from\":\"x\"") + "]", 0);
        p.text(0, "{\"b\":null}");
    }

    private static void pointers() {
        String names = "{\"\":1,\"/\":2,\"~\":3,\"~1\":4,\"a/b\":5,\"-\":6,\"0\":7}";
        done(names, remove("/"), "{\"/\":2,\"~\":3,\"~1\":4,\"a/b\":5,\"-\":6,\"0\":7}");
        done(names, remove("/~1"), "{\"\":1,\"~\":3,\"~1\":4,\"a/b\":5,\"-\":6,\"0\":7}");
        done(names, remove("/~0"), "{\"\":1,\"/\":2,\"~1\":4,\"a/b\":5,\"-\":6,\"0\":7}");
        done(names, remove("/~01"), "{\"\":1,\"/\":2,\"~\":3,\"a/b\":5,\"-\":6,\"0\":7}");
        done(names, remove("\\/a~1b"), "{\"\":1,\"/\":2,\"~\":3,\"~1\":4,\"-\":6,\"0\":7}");
        done(names, remove("/-"), "{\"\":1,\"/\":2,\"~\":3,\"~1\":4,\"a/b\":5,\"0\":7}");
        done(names, remove("/0"), "{\"\":1,\"/\":2,\"~\":3,\"~1\":4,\"a/b\":5,\"-\":6}");
        refused(names, remove("//"), 6);
        refused(names, remove("/00"), 6);
        done("{\"\":{\"\":{}}}", remove("//"), "{\"\":{}}");
        done("{\"\":{\"\":{}}}", add("///", "1"), "{\"\":{\"\":{\"\":1}}}");
        String numbers = "[0,1,2,3,4,5,6,7,8,9,10]";
        done(numbers, remove("/0"), "[1,2,3,4,5,6,7,8,9,10]");
        done(numbers, remove("/10"), "[0,1,2,3,4,5,6,7,8,9]");
        for (String step : new String[] {"11", "00", "01", "-", "-1", "", " 1", "1 ", "+1", "a", "0x1", "999", "1000", "0001",
            "4294967296", "18446744073709551616"}) {
            refused(numbers, remove("/" + step), 6);
        }
        refused("[{\"a\":[1]}]", remove("/0/a/1"), 6);
        refused("[{\"a\":[1]}]", remove("/0/a/0/0"), 6);
        refused("[{\"a\":[1]}]", remove("/0/b/0"), 6);
        done("[{\"a\":[1]}]", remove("/0/a/0"), "[{\"a\":[]}]");
    }

    private static void add() {
        done("1", add("", "[2]"), "[2]");
        done("{\"a\":1}", add("/b", "2"), "{\"a\":1,\"b\":2}");
        done("{\"a\":1,\"b\":2}", add("/a", "[]"), "{\"a\":[],\"b\":2}");
        done("{}", add("/-", "2"), "{\"-\":2}");
        done("{\"a\":{}}", add("/a/\\\"", "2"), "{\"a\":{\"\\\"\":2}}");
        done("[1,2]", add("/0", "3"), "[3,1,2]");
        done("[1,2]", add("/1", "3"), "[1,3,2]");
        done("[1,2]", add("/2", "3"), "[1,2,3]");
        done("[1,2]", add("/-", "3"), "[1,2,3]");
        done("[]", add("/0", "3"), "[3]");
        done("[]", add("/-", "{\"x\":[null]}"), "[{\"x\":[null]}]");
        done("[[1]]", add("/0/0", "3"), "[[3,1]]");
        for (String path : new String[] {"/3", "/02", "/-1", "/a", "/", "/2/0", "/0/0", "/-/0", "/1000"}) {
            refused("[1,2]", add(path, "3"), 6);
        }
        refused("{\"a\":1}", add("/a/b", "2"), 6);
        refused("{\"a\":1}", add("/b/c", "2"), 6);
        refused("\"s\"", add("/0", "2"), 6);
        refused("null", add("/-", "2"), 6);
    }

    private static void remove() {
        done("{\"a\":1,\"b\":2,\"c\":3}", remove("/b"), "{\"a\":1,\"c\":3}");
        done("[1,[2,3]]", remove("/1/0"), "[1,[3]]");
        done("[1,[2,3]]", remove("/1"), "[1]");
        refused("{\"a\":1}", remove(""), 6);
        refused("1", remove(""), 6);
        refused("{\"a\":1}", remove("/b"), 6);
        refused("{\"a\":1}", remove("/a/"), 6);
    }

    private static void replace() {
        done("{\"a\":1,\"b\":2}", replace("/a", "{}"), "{\"a\":{},\"b\":2}");
        done("[1,2]", replace("/0", "3"), "[3,2]");
        done("[1,{\"a\":[2]}]", replace("/1/a/0", "3"), "[1,{\"a\":[3]}]");
        done("[1,2]", replace("", "3"), "3");
        refused("[1,2]", replace("/2", "3"), 6);
        refused("[1,2]", replace("/-", "3"), 6);
        refused("{\"a\":1}", replace("/b", "3"), 6);
        refused("{\"a\":1}", replace("/b/c", "3"), 6);
    }

    private static void copy() {
        done("{\"a\":[1]}", copy("/a", "/b"), "{\"a\":[1],\"b\":[1]}");
        done("{\"a\":[1]}", copy("", "/a/0"), "{\"a\":[{\"a\":[1]},1]}");
        done("{\"a\":[1]}", copy("/a", "/a/-"), "{\"a\":[1,[1]]}");
        done("{\"a\":[1]}", copy("/a/0", ""), "1");
        done("{\"a\":[1],\"b\":2}", copy("/b", "/a"), "{\"a\":2,\"b\":2}");
        done("[1,2]", copy("/0", "/0"), "[1,1,2]");
        done("{\"a\":1}", copy("/a", "/a"), "{\"a\":1}");
        refused("{\"a\":[1]}", copy("/b", "/a"), 6);
        refused("{\"a\":[1]}", copy("/a", "/b/c"), 6);
        refused("{\"a\":[1]}", copy("/a/-", "/b"), 6);
        // A copy is a value of its own: what is done to it leaves the other as it was.
        done("{\"a\":[1]}", "[" + op("copy", "/b", ",\"from\":\"/a\"") + "," + op("add", "/b/-", ",\"value\":2") + "]",
            "{\"a\":[1],\"b\":[1,2]}");
    }

    private static void move() {
        done("{\"a\":1,\"b\":2}", move("/a", "/c"), "{\"b\":2,\"c\":1}");
        done("{\"a\":1,\"b\":2}", move("/a", "/b"), "{\"b\":1}");
        done("{\"a\":1,\"b\":2}", move("/b", "/a"), "{\"a\":2}");
        done("{\"a\":1,\"b\":2}", move("/a", "/a"), "{\"a\":1,\"b\":2}");
        done("{\"a\":1,\"b\":2}", move("", ""), "{\"a\":1,\"b\":2}");
        done("{\"a\":{\"b\":[2]}}", move("/a/b", "/a"), "{\"a\":[2]}");
        done("{\"a\":{\"b\":[2]}}", move("/a/b", ""), "[2]");
        done("{\"a\":{},\"ab\":{}}", move("/a", "/ab/a"), "{\"ab\":{\"a\":{}}}");
        done("[1,2,3]", move("/0", "/2"), "[2,3,1]");
        done("[1,2,3]", move("/0", "/-"), "[2,3,1]");
        done("[1,2,3]", move("/2", "/0"), "[3,1,2]");
        refused("[[],2]", move("/0", "/0/-"), 6);
        done("[1,[],3]", move("/2", "/1/0"), "[1,[3]]");
        done("[1,[2]]", move("/1/0", "/0"), "[2,1,[]]");
        refused("[1,2,3]", move("/0", "/3"), 6);
        refused("{\"a\":{\"b\":1}}", move("/a", "/a/b"), 6);
        refused("{\"a\":{\"b\":1}}", move("/a", "/a/c/d"), 6);
        refused("{\"a\":1}", move("", "/a"), 6);
        refused("{\"a\":1}", move("/b", "/b"), 6);
        refused("{\"a\":1}", move("/b", "/c"), 6);
        refused("{\"a\":1,\"b\":2}", move("/a", "/c/d"), 6);
        refused("[1]", move("/-", "/-"), 6);
    }

    private static void test() {
        for (String value : new String[] {"null", "true", "false", "0", "-7", "\"\"", "\"a\"", "[]", "{}", "[1,[2]]", "{\"a\":{\"b\":1}}"}) {
            done(value, test("", value), value);
            refused("[" + value + "]", test("/0", "\"other\""), 7);
        }
        done("{\"a\":1,\"b\":[{\"c\":2,\"d\":3}]}", test("", "{\"b\":[{\"d\":3,\"c\":2}],\"a\":1}"), "{\"a\":1,\"b\":[{\"c\":2,\"d\":3}]}");
        done("[0]", test("/0", "-0"), "[0]");
        done("[\"/\"]", test("/0", "\"\\/\""), "[\"/\"]");
        refused("[1,2]", test("", "[2,1]"), 7);
        refused("[1,2]", test("", "[1]"), 7);
        refused("[1]", test("", "[1,2]"), 7);
        refused("{\"a\":1}", test("", "{\"a\":1,\"b\":2}"), 7);
        refused("{\"a\":1,\"b\":2}", test("", "{\"a\":1}"), 7);
        refused("{\"a\":1}", test("", "{\"b\":1}"), 7);
        refused("{\"a\":1}", test("", "{\"a\":2}"), 7);
        refused("1", test("", "\"1\""), 7);
        refused("null", test("", "\"null\""), 7);
        refused("\"true\"", test("", "true"), 7);
        refused("true", test("", "false"), 7);
        refused("[]", test("", "{}"), 7);
        refused("[\"\"]", test("", "[[]]"), 7);
        refused("\"a\"", test("", "\"A\""), 7);
        refused("{\"a\":1}", test("/b", "1"), 6);
        refused("[1]", test("/1", "1"), 6);
        refused("[1]", test("/-", "1"), 6);
    }

    private static void deepAndFull() {
        Probe p = new Probe("limits", 2, 5);
        p.put(0, "[[1],2]", 0);
        p.patch(0, add("/0/-", "[]"), 2);
        p.patch(0, add("/-", "[[]]"), 2);
        p.patch(0, add("/-", "[3]"), 4);
        p.patch(0, add("", "[1,2,3,4,5]"), 4);
        p.patch(0, add("", "[[[]],2,3,4,5]"), 2);
        p.patch(0, replace("/1", "[[3]]"), 2);
        p.patch(0, replace("/1", "[3,4]"), 4);
        p.patch(0, copy("", "/0/0"), 2);
        p.patch(0, copy("/0", "/-"), 4);
        p.patch(0, copy("/0", "/0/-"), 2);
        p.patch(0, add("/-", "{\"a\":{\"b\":[]}}"), 2);
        p.patch(0, test("", "[[[]]]"), 2);
        p.text(0, "[[1],2]");
        p.patch(0, add("/-", "[]"), 0);
        p.text(0, "[[1],2,[]]");
        p.patch(0, move("/0", "/1/0"), 2);
        p.patch(0, move("/0", "/1/0/0"), 6);
        p.patch(0, move("/2", "/0/0"), 2);
        p.patch(0, "[" + op("add", "/-", ",\"value\":3") + "," + op("remove", "/0", "") + "]", 4);
        p.patch(0, "[" + op("remove", "/0", "") + "," + op("add", "/-", ",\"value\":3") + "]", 0);
        p.text(0, "[2,[],3]");
        p.patch(0, move("/2", "/1/0"), 0);
        p.text(0, "[2,[3]]");
        p.due("depth", p.store.depth(0), 2);
        p.due("count", p.store.count(0), 4);
    }

    private static void whollyOrNotAtAll() {
        Probe p = new Probe("wholly");
        p.put(0, "{\"a\":[1,2]}", 0);
        p.put(1, "[]", 0);
        p.patch(0, "[" + op("remove", "/a/0", "") + "," + op("test", "/a/0", ",\"value\":1") + "]", 7);
        p.text(0, "{\"a\":[1,2]}");
        p.patch(0, "[" + op("add", "/a/-", ",\"value\":3") + "," + op("remove", "/b", "") + "]", 6);
        p.text(0, "{\"a\":[1,2]}");
        p.patch(0, "[" + op("test", "/a/0", ",\"value\":2") + "," + op("remove", "/b", "") + "]", 7);
        p.patch(0, "[" + op("remove", "/b", "") + "," + op("test", "/a/0", ",\"value\":2") + "]", 6);
        p.patch(0, "[" + op("add", "/b", ",\"value\":{}") + "," + op("move", "/b/c", ",\"from\":\"/a\"") + ","
            + op("test", "/b/c/1", ",\"value\":2") + "]", 0);
        p.text(0, "{\"b\":{\"c\":[1,2]}}");
        p.text(1, "[]");
        p.patch(0, "[]", 0);
        p.text(0, "{\"b\":{\"c\":[1,2]}}");
    }
}
