/** Promise 4: patch. */
public final class PatchTest {
    public static void main(String[] args) {
        answersBeforeAnyOperation();
        unfit();
        pointers();
        add();
        remove();
        replace();
        copy();
        move();
        test();
        deepAndFull();
        whollyOrNotAtAll();
        Probe.end();
    }

    private static void done(String document, String patch, String due) {
        Probe.patched("patch", document, patch, due);
    }

    private static void refused(String document, String patch, int due) {
        Probe.unpatched("patch", document, patch, due);
    }

    private static void answersBeforeAnyOperation() {
        Probe p = new Probe("reading a patch", 2, 3);
        p.patch(0, "[]", -1);
        p.patch(3, "[]", -1);
        p.patch(-1, "[", -1);
        p.put(0, "[1,2]", 0);
        p.patch(0, "", 1);
        p.patch(0, "[", 1);
        p.patch(0, "[{}", 1);
        p.patch(0, "[{\"op\":\"add\",\"op\"", 3);
        p.patch(0, "[[[[[", 2);
        p.patch(0, "[[[[]]]]", 5);
        p.patch(0, "[{\"a\":[[[", 2);
        p.patch(0, "[{\"a\":[[1]]}]", 5);
        p.patch(0, "[1,2,3,4,5,6]", 5);
        p.patch(0, " [ ] ", 0);
        p.patch(0, "[] x", 1);
        p.text(0, "[1,2]");
    }

    private static void unfit() {
        for (String patch : new String[] {"1", "\"add\"", "null", "{}", "[1]", "[[]]", "[\"add\"]", "[{}]",
            "{\"op\":\"remove\",\"path\":\"/a\"}", "[{\"op\":\"remove\"}]", "[{\"path\":\"/a\"}]",
            "[{\"op\":\"Remove\",\"path\":\"/a\"}]", "[{\"op\":\"\",\"path\":\"/a\"}]", "[{\"op\":null,\"path\":\"/a\"}]",
            "[{\"op\":[\"remove\"],\"path\":\"/a\"}]", "[{\"op\":\"remove\",\"path\":null}]", "[{\"op\":\"remove\",\"path\":1}]",
            "[{\"op\":\"remove\",\"path\":[]}]", Op.remove("a"), Op.remove("a/"), Op.remove(" /a"), Op.remove("/~"), Op.remove("/a~"),
            Op.remove("/~2"), Op.remove("/~~0"), Op.remove("/~/a"), Op.remove("/a/~a"), Op.remove("~0"), Op.one("add", "/b", ""),
            Op.one("replace", "/a", ""), Op.one("test", "/a", ""), Op.one("move", "/b", ""),
            Op.one("copy", "/b", ""), Op.one("copy", "/b", ",\"from\":1"), Op.move("a", "/b"), Op.copy("/~3", "/b"),
            Op.move("/a", "b"), Op.one("move", "/b", ",\"value\":1"), Op.one("add", "/b", ",\"from\":\"/a\""),
            Op.all(Op.remove("/a"), "[{\"op\":\"remove\"}]"), Op.all(Op.remove("/lost"), "[1]"),
            Op.all(Op.test("/a", "2"), "[{}]")}) {
            refused("{\"a\":1}", patch, 5);
        }
        Probe p = new Probe("unfit");
        p.put(0, "{\"a\":1}", 0);
        p.patch(0, "[{\"x\":[],\"path\":\"/a\",\"from\":7,\"value\":\"~\",\"op\":\"remove\"}]", 0);
        p.text(0, "{}");
        p.patch(0, Op.one("add", "/b", ",\"value\":null,\"from\":\"x\""), 0);
        p.text(0, "{\"b\":null}");
    }

    private static void pointers() {
        String names = "{\"\":1,\"/\":2,\"~\":3,\"~1\":4,\"a/b\":5,\"-\":6,\"0\":7}";
        done(names, Op.remove("/"), "{\"/\":2,\"~\":3,\"~1\":4,\"a/b\":5,\"-\":6,\"0\":7}");
        done(names, Op.remove("/~1"), "{\"\":1,\"~\":3,\"~1\":4,\"a/b\":5,\"-\":6,\"0\":7}");
        done(names, Op.remove("/~0"), "{\"\":1,\"/\":2,\"~1\":4,\"a/b\":5,\"-\":6,\"0\":7}");
        done(names, Op.remove("/~01"), "{\"\":1,\"/\":2,\"~\":3,\"a/b\":5,\"-\":6,\"0\":7}");
        done(names, Op.remove("\\/a~1b"), "{\"\":1,\"/\":2,\"~\":3,\"~1\":4,\"-\":6,\"0\":7}");
        done(names, Op.remove("/-"), "{\"\":1,\"/\":2,\"~\":3,\"~1\":4,\"a/b\":5,\"0\":7}");
        done(names, Op.remove("/0"), "{\"\":1,\"/\":2,\"~\":3,\"~1\":4,\"a/b\":5,\"-\":6}");
        refused(names, Op.remove("//"), 6);
        refused(names, Op.remove("/00"), 6);
        done("{\"\":{\"\":{}}}", Op.remove("//"), "{\"\":{}}");
        done("{\"\":{\"\":{}}}", Op.add("///", "1"), "{\"\":{\"\":{\"\":1}}}");
        String numbers = "[0,1,2,3,4,5,6,7,8,9,10]";
        done(numbers, Op.remove("/0"), "[1,2,3,4,5,6,7,8,9,10]");
        done(numbers, Op.remove("/10"), "[0,1,2,3,4,5,6,7,8,9]");
        for (String step : new String[] {"11", "00", "01", "-", "-1", "", " 1", "1 ", "+1", "a", "0x1", "999", "1000", "0001",
            "4294967296", "18446744073709551616"}) {
            refused(numbers, Op.remove("/" + step), 6);
        }
        refused("[{\"a\":[1]}]", Op.remove("/0/a/1"), 6);
        refused("[{\"a\":[1]}]", Op.remove("/0/a/0/0"), 6);
        refused("[{\"a\":[1]}]", Op.remove("/0/b/0"), 6);
        done("[{\"a\":[1]}]", Op.remove("/0/a/0"), "[{\"a\":[]}]");
    }

    private static void add() {
        done("1", Op.add("", "[2]"), "[2]");
        done("{\"a\":1}", Op.add("/b", "2"), "{\"a\":1,\"b\":2}");
        done("{\"a\":1,\"b\":2}", Op.add("/a", "[]"), "{\"a\":[],\"b\":2}");
        done("{}", Op.add("/-", "2"), "{\"-\":2}");
        done("{\"a\":{}}", Op.add("/a/\\\"", "2"), "{\"a\":{\"\\\"\":2}}");
        done("[1,2]", Op.add("/0", "3"), "[3,1,2]");
        done("[1,2]", Op.add("/1", "3"), "[1,3,2]");
        done("[1,2]", Op.add("/2", "3"), "[1,2,3]");
        done("[1,2]", Op.add("/-", "3"), "[1,2,3]");
        done("[]", Op.add("/0", "3"), "[3]");
        done("[]", Op.add("/-", "{\"x\":[null]}"), "[{\"x\":[null]}]");
        done("[[1]]", Op.add("/0/0", "3"), "[[3,1]]");
        for (String path : new String[] {"/3", "/02", "/-1", "/a", "/", "/2/0", "/0/0", "/-/0", "/1000"}) {
            refused("[1,2]", Op.add(path, "3"), 6);
        }
        refused("{\"a\":1}", Op.add("/a/b", "2"), 6);
        refused("{\"a\":1}", Op.add("/b/c", "2"), 6);
        refused("\"s\"", Op.add("/0", "2"), 6);
        refused("null", Op.add("/-", "2"), 6);
    }

    private static void remove() {
        done("{\"a\":1,\"b\":2,\"c\":3}", Op.remove("/b"), "{\"a\":1,\"c\":3}");
        done("[1,[2,3]]", Op.remove("/1/0"), "[1,[3]]");
        done("[1,[2,3]]", Op.remove("/1"), "[1]");
        refused("{\"a\":1}", Op.remove(""), 6);
        refused("1", Op.remove(""), 6);
        refused("{\"a\":1}", Op.remove("/b"), 6);
        refused("{\"a\":1}", Op.remove("/a/"), 6);
    }

    private static void replace() {
        done("{\"a\":1,\"b\":2}", Op.replace("/a", "{}"), "{\"a\":{},\"b\":2}");
        done("[1,2]", Op.replace("/0", "3"), "[3,2]");
        done("[1,{\"a\":[2]}]", Op.replace("/1/a/0", "3"), "[1,{\"a\":[3]}]");
        done("[1,2]", Op.replace("", "3"), "3");
        refused("[1,2]", Op.replace("/2", "3"), 6);
        refused("[1,2]", Op.replace("/-", "3"), 6);
        refused("{\"a\":1}", Op.replace("/b", "3"), 6);
        refused("{\"a\":1}", Op.replace("/b/c", "3"), 6);
    }

    private static void copy() {
        done("{\"a\":[1]}", Op.copy("/a", "/b"), "{\"a\":[1],\"b\":[1]}");
        done("{\"a\":[1]}", Op.copy("", "/a/0"), "{\"a\":[{\"a\":[1]},1]}");
        done("{\"a\":[1]}", Op.copy("/a", "/a/-"), "{\"a\":[1,[1]]}");
        done("{\"a\":[1]}", Op.copy("/a/0", ""), "1");
        done("{\"a\":[1],\"b\":2}", Op.copy("/b", "/a"), "{\"a\":2,\"b\":2}");
        done("[1,2]", Op.copy("/0", "/0"), "[1,1,2]");
        done("{\"a\":1}", Op.copy("/a", "/a"), "{\"a\":1}");
        refused("{\"a\":[1]}", Op.copy("/b", "/a"), 6);
        refused("{\"a\":[1]}", Op.copy("/a", "/b/c"), 6);
        refused("{\"a\":[1]}", Op.copy("/a/-", "/b"), 6);
        // A copy is a value of its own: what is done to it leaves the other as it was.
        done("{\"a\":[1]}", Op.all(Op.copy("/a", "/b"), Op.add("/b/-", "2")), "{\"a\":[1],\"b\":[1,2]}");
    }

    private static void move() {
        done("{\"a\":1,\"b\":2}", Op.move("/a", "/c"), "{\"b\":2,\"c\":1}");
        done("{\"a\":1,\"b\":2}", Op.move("/a", "/b"), "{\"b\":1}");
        done("{\"a\":1,\"b\":2}", Op.move("/b", "/a"), "{\"a\":2}");
        done("{\"a\":1,\"b\":2}", Op.move("/a", "/a"), "{\"a\":1,\"b\":2}");
        done("{\"a\":1,\"b\":2}", Op.move("", ""), "{\"a\":1,\"b\":2}");
        done("{\"a\":{\"b\":[2]}}", Op.move("/a/b", "/a"), "{\"a\":[2]}");
        done("{\"a\":{\"b\":[2]}}", Op.move("/a/b", ""), "[2]");
        done("{\"a\":{},\"ab\":{}}", Op.move("/a", "/ab/a"), "{\"ab\":{\"a\":{}}}");
        done("[1,2,3]", Op.move("/0", "/2"), "[2,3,1]");
        done("[1,2,3]", Op.move("/0", "/-"), "[2,3,1]");
        done("[1,2,3]", Op.move("/2", "/0"), "[3,1,2]");
        refused("[[],2]", Op.move("/0", "/0/-"), 6);
        done("[1,[],3]", Op.move("/2", "/1/0"), "[1,[3]]");
        done("[1,[2]]", Op.move("/1/0", "/0"), "[2,1,[]]");
        refused("[1,2,3]", Op.move("/0", "/3"), 6);
        refused("{\"a\":{\"b\":1}}", Op.move("/a", "/a/b"), 6);
        refused("{\"a\":{\"b\":1}}", Op.move("/a", "/a/c/d"), 6);
        refused("{\"a\":1}", Op.move("", "/a"), 6);
        refused("{\"a\":1}", Op.move("/b", "/b"), 6);
        refused("{\"a\":1}", Op.move("/b", "/c"), 6);
        refused("{\"a\":1,\"b\":2}", Op.move("/a", "/c/d"), 6);
        refused("[1]", Op.move("/-", "/-"), 6);
    }

    private static void test() {
        for (String value : new String[] {"null", "true", "false", "0", "-7", "\"\"", "\"a\"", "[]", "{}", "[1,[2]]",
            "{\"a\":{\"b\":1}}"}) {
            done(value, Op.test("", value), value);
            refused("[" + value + "]", Op.test("/0", "\"other\""), 7);
        }
        done("{\"a\":1,\"b\":[{\"c\":2,\"d\":3}]}", Op.test("", "{\"b\":[{\"d\":3,\"c\":2}],\"a\":1}"),
            "{\"a\":1,\"b\":[{\"c\":2,\"d\":3}]}");
        done("[0]", Op.test("/0", "-0"), "[0]");
        done("[\"/\"]", Op.test("/0", "\"\\/\""), "[\"/\"]");
        refused("[1,2]", Op.test("", "[2,1]"), 7);
        refused("[1,2]", Op.test("", "[1]"), 7);
        refused("[1]", Op.test("", "[1,2]"), 7);
        refused("{\"a\":1}", Op.test("", "{\"a\":1,\"b\":2}"), 7);
        refused("{\"a\":1,\"b\":2}", Op.test("", "{\"a\":1}"), 7);
        refused("{\"a\":1}", Op.test("", "{\"b\":1}"), 7);
        refused("{\"a\":1}", Op.test("", "{\"a\":2}"), 7);
        refused("1", Op.test("", "\"1\""), 7);
        refused("null", Op.test("", "\"null\""), 7);
        refused("\"true\"", Op.test("", "true"), 7);
        refused("true", Op.test("", "false"), 7);
        refused("[]", Op.test("", "{}"), 7);
        refused("[\"\"]", Op.test("", "[[]]"), 7);
        refused("\"a\"", Op.test("", "\"A\""), 7);
        refused("{\"a\":1}", Op.test("/b", "1"), 6);
        refused("[1]", Op.test("/1", "1"), 6);
        refused("[1]", Op.test("/-", "1"), 6);
    }

    private static void deepAndFull() {
        Probe p = new Probe("limits", 2, 5);
        p.put(0, "[[1],2]", 0);
        p.patch(0, Op.add("/0/-", "[]"), 2);
        p.patch(0, Op.add("/-", "[[]]"), 2);
        p.patch(0, Op.add("/-", "[3]"), 4);
        p.patch(0, Op.add("", "[1,2,3,4,5]"), 4);
        p.patch(0, Op.add("", "[[[]],2,3,4,5]"), 2);
        p.patch(0, Op.replace("/1", "[[3]]"), 2);
        p.patch(0, Op.replace("/1", "[3,4]"), 4);
        p.patch(0, Op.copy("", "/0/0"), 2);
        p.patch(0, Op.copy("/0", "/-"), 4);
        p.patch(0, Op.copy("/0", "/0/-"), 2);
        p.patch(0, Op.add("/-", "{\"a\":{\"b\":[]}}"), 2);
        p.patch(0, Op.test("", "[[[]]]"), 2);
        p.text(0, "[[1],2]");
        p.patch(0, Op.add("/-", "[]"), 0);
        p.text(0, "[[1],2,[]]");
        p.patch(0, Op.move("/0", "/1/0"), 2);
        p.patch(0, Op.move("/0", "/1/0/0"), 6);
        p.patch(0, Op.move("/2", "/0/0"), 2);
        p.patch(0, Op.all(Op.add("/-", "3"), Op.remove("/0")), 4);
        p.patch(0, Op.all(Op.remove("/0"), Op.add("/-", "3")), 0);
        p.text(0, "[2,[],3]");
        p.patch(0, Op.move("/2", "/1/0"), 0);
        p.text(0, "[2,[3]]");
        p.due("depth", p.store.depth(0), 2);
        p.due("count", p.store.count(0), 4);
    }

    private static void whollyOrNotAtAll() {
        Probe p = new Probe("wholly");
        p.put(0, "{\"a\":[1,2]}", 0);
        p.put(1, "[]", 0);
        p.patch(0, Op.all(Op.remove("/a/0"), Op.test("/a/0", "1")), 7);
        p.text(0, "{\"a\":[1,2]}");
        p.patch(0, Op.all(Op.add("/a/-", "3"), Op.remove("/b")), 6);
        p.text(0, "{\"a\":[1,2]}");
        p.patch(0, Op.all(Op.test("/a/0", "2"), Op.remove("/b")), 7);
        p.patch(0, Op.all(Op.remove("/b"), Op.test("/a/0", "2")), 6);
        p.patch(0, Op.all(Op.add("/b", "{}"), Op.move("/a", "/b/c"), Op.test("/b/c/1", "2")), 0);
        p.text(0, "{\"b\":{\"c\":[1,2]}}");
        p.text(1, "[]");
        p.patch(0, "[]", 0);
        p.text(0, "{\"b\":{\"c\":[1,2]}}");
    }
}
