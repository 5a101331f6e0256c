/** What "Terms" and promise 4 say of patches, at their edges: each label is the sentence that would be broken. */
public final class PatchEdgesTest {
    public static void main(String[] args) {
        arrayOfObjects();
        memberOp();
        memberPath();
        memberValue();
        memberFrom();
        otherMembers();
        lookedAtBeforeAnythingIsDone();
        addInAnObject();
        addInAnArray();
        addWhereNothingFits();
        addWithoutSteps();
        removeAtItsEnds();
        replaceAtItsEnds();
        copyAtItsEnds();
        moveToTheSamePlace();
        moveIntoItself();
        moveAtItsEnds();
        testAtItsEnds();
        oneAfterTheOther();
        deepAfterAnOperation();
        fullAfterAnOperation();
        deepBeforeFull();
        nothingOfAllThePatch();
        emptyPatch();
        Probe.end();
    }

    private static void arrayOfObjects() {
        String label = "a PATCH is an array of objects; what can be read, but is no patch, is UNFIT";
        for (String patch : new String[] {"null", "true", "0", "\"\"", "\"[]\"", "{}", "{\"op\":\"remove\",\"path\":\"/a\"}", "[null]",
            "[0]", "[\"remove\"]", "[[]]", "[[{\"op\":\"remove\",\"path\":\"/a\"}]]", "[{}]", "[{\"op\":\"remove\",\"path\":\"/a\"},[]]",
            "[{\"op\":\"remove\",\"path\":\"/a\"},null]"}) {
            Probe.unpatched(label, "{\"a\":1}", patch, 5);
        }
    }

    private static void memberOp() {
        String label = "each has a member op, one of the strings add, remove, replace, move, copy, test";
        String rest = ",\"path\":\"/a\",\"from\":\"/a\",\"value\":1}]";
        for (String op : new String[] {"\"add\"", "\"replace\"", "\"move\"", "\"copy\"", "\"test\""}) {
            Probe.patched(label, "{\"a\":1}", "[{\"op\":" + op + rest, "{\"a\":1}");
        }
        Probe.patched(label, "{\"a\":1}", "[{\"op\":\"remove\"" + rest, "{}");
        for (String op : new String[] {"\"\"", "\"Add\"", "\"ADD\"", "\"ad\"", "\"adds\"", "\" add\"", "\"add \"", "\"removed\"",
            "\"replac\"", "\"moves\"", "\"cop\"", "\"tests\"", "\"delete\"", "null", "true", "0", "[]", "{}", "[\"add\"]",
            "{\"op\":\"add\"}"}) {
            Probe.unpatched(label, "{\"a\":1}", "[{\"op\":" + op + rest, 5);
        }
        Probe.unpatched(label, "{\"a\":1}", "[{\"OP\":\"add\"" + rest, 5);
        Probe.unpatched(label, "{\"a\":1}", "[{\"\":\"add\"" + rest, 5);
    }

    private static void memberPath() {
        String label = "each has a member path, a pointer";
        for (String op : new String[] {"add", "remove", "replace", "move", "copy", "test"}) {
            String rest = "\"op\":\"" + op + "\",\"from\":\"/a\",\"value\":1}]";
            Probe.unpatched(label, "{\"a\":1}", "[{" + rest, 5);
            Probe.unpatched(label, "{\"a\":1}", "[{\"Path\":\"/a\"," + rest, 5);
            for (String path : new String[] {"null", "true", "0", "[]", "{}", "[\"/a\"]", "\"a\"", "\"/~\"", "\"/~2\""}) {
                Probe.unpatched(label, "{\"a\":1}", "[{\"path\":" + path + "," + rest, 5);
            }
        }
    }

    private static void memberValue() {
        String label = "for add, replace and test also a member value";
        for (String op : new String[] {"add", "replace", "test"}) {
            Probe.unpatched(label, "{\"a\":1}", Op.one(op, "/a", ""), 5);
            Probe.unpatched(label, "{\"a\":1}", Op.one(op, "/a", ",\"from\":\"/a\",\"Value\":1"), 5);
            Probe.unpatched(label, "{\"a\":1}", Op.one(op, "/b/c", ""), 5);
        }
        for (String value : new String[] {"null", "false", "0", "\"\"", "[]", "{}", "[null]"}) {
            Probe.patched(label, "{\"a\":1}", Op.add("/a", value), "{\"a\":" + value + "}");
            Probe.patched(label, "{\"a\":1}", Op.replace("/a", value), "{\"a\":" + value + "}");
            Probe.patched(label, "{\"a\":" + value + "}", Op.test("/a", value), "{\"a\":" + value + "}");
        }
    }

    private static void memberFrom() {
        String label = "for move and copy also a member from, a pointer";
        for (String op : new String[] {"move", "copy"}) {
            Probe.unpatched(label, "{\"a\":1}", Op.one(op, "/a", ""), 5);
            Probe.unpatched(label, "{\"a\":1}", Op.one(op, "/a", ",\"value\":\"/a\",\"From\":\"/a\""), 5);
            for (String from : new String[] {"null", "0", "[]", "{}", "[\"/a\"]", "\"a\"", "\"/~\"", "\"/~2\""}) {
                Probe.unpatched(label, "{\"a\":1}", Op.one(op, "/a", ",\"from\":" + from), 5);
            }
        }
    }

    private static void otherMembers() {
        String label = "other members may be there and mean nothing";
        Probe.patched(label, "{\"a\":1}", Op.one("remove", "/a", ",\"from\":0,\"value\":[],\"\":1,\"x\":\"~\""), "{}");
        Probe.patched(label, "{\"a\":1}", Op.one("add", "/b", ",\"from\":\"~\",\"value\":2,\"OP\":\"remove\""), "{\"a\":1,\"b\":2}");
        Probe.patched(label, "{\"a\":1}", Op.one("copy", "/b", ",\"from\":\"/a\",\"value\":2"), "{\"a\":1,\"b\":1}");
        Probe.patched(label, "{\"a\":1}", "[{\"x\":{\"op\":\"add\"},\"path\":\"/a\",\"op\":\"remove\"}]", "{}");
        Probe.patched(label, "{\"a\":1}", "[{\"value\":2,\"x\":0,\"path\":\"/a\",\"y\":[{}],\"op\":\"replace\"}]", "{\"a\":2}");
    }

    private static void lookedAtBeforeAnythingIsDone() {
        String label = "all of it is looked at before anything is done";
        String[] before = {Op.add("/b", "1"), Op.remove("/lost"), Op.test("/a", "2"), Op.add("/a/b", "1"), Op.add("", "[0,0,0,0]")};
        String[] unfit = {"[0]", "[{}]", Op.remove("a"), Op.one("add", "/a", ""), Op.one("move", "/a", ""), Op.remove("/~")};
        for (String first : before) {
            for (String second : unfit) {
                Probe p = new Probe(label, 1, 4);
                p.put(1, "{\"a\":1}", 0);
                p.patch(1, Op.all(first, second), 5);
                p.patch(1, Op.all(second, first), 5);
                p.patch(1, Op.all(first, "[{\"op\":\"add\",\"op\"]"), 3);
                p.text(1, "{\"a\":1}");
            }
        }
    }

    private static void addInAnObject() {
        String label = "add: in its old place, if there was one of that name, otherwise behind the others";
        String document = "{\"a\":1,\"b\":2,\"c\":3}";
        Probe.patched(label, document, Op.add("/a", "[]"), "{\"a\":[],\"b\":2,\"c\":3}");
        Probe.patched(label, document, Op.add("/b", "[]"), "{\"a\":1,\"b\":[],\"c\":3}");
        Probe.patched(label, document, Op.add("/c", "[]"), "{\"a\":1,\"b\":2,\"c\":[]}");
        Probe.patched(label, document, Op.add("/A", "[]"), "{\"a\":1,\"b\":2,\"c\":3,\"A\":[]}");
        Probe.patched(label, document, Op.add("/", "[]"), "{\"a\":1,\"b\":2,\"c\":3,\"\":[]}");
        Probe.patched(label, document, Op.add("/0", "[]"), "{\"a\":1,\"b\":2,\"c\":3,\"0\":[]}");
        Probe.patched(label, document, Op.add("/-", "[]"), "{\"a\":1,\"b\":2,\"c\":3,\"-\":[]}");
        Probe.patched(label, "{}", Op.add("/a", "1"), "{\"a\":1}");
        Probe.patched(label, "[{\"a\":{}}]", Op.add("/0/a/b", "1"), "[{\"a\":{\"b\":1}}]");
        Probe.patched(label, "{\"a\":{\"a\":1}}", Op.add("/a", "{\"b\":2}"), "{\"a\":{\"b\":2}}");
    }

    private static void addInAnArray() {
        String label = "add: before the element with that number, or behind all when the step is that number which the array has elements, or a hyphen";
        for (int size = 0; size <= 3; size++) {
            String document = "[1,2,3]".substring(0, 2 * size) + (size == 0 ? "[]" : "]");
            for (int place = 0; place <= 5; place++) {
                if (place <= size) {
                    Probe.patched(label, document, Op.add("/" + place, "7"), withSeven(size, place));
                } else {
                    Probe.unpatched(label, document, Op.add("/" + place, "7"), 6);
                }
            }
            Probe.patched(label, document, Op.add("/-", "7"), withSeven(size, size));
        }
        Probe.patched(label, "{\"a\":[[1]]}", Op.add("/a/0/1", "7"), "{\"a\":[[1,7]]}");
        Probe.patched(label, "{\"a\":[[1]]}", Op.add("/a/0/-", "7"), "{\"a\":[[1,7]]}");
    }

    /** An array of 1, 2, .. with a 7 at the place. */
    private static String withSeven(int size, int place) {
        StringBuilder text = new StringBuilder();
        for (int i = 0; i <= size; i++) {
            text.append(i == 0 ? "[" : ",").append(i < place ? i + 1 : i == place ? 7 : i);
        }
        return text + "]";
    }

    private static void addWhereNothingFits() {
        String label = "add: the steps before the last must lead to such an object or array";
        for (String value : new String[] {"null", "true", "0", "\"\"", "\"ab\""}) {
            for (String step : new String[] {"/0", "/-", "/a", "/"}) {
                Probe.unpatched(label, value, Op.add(step, "7"), 6);
                Probe.unpatched(label, "[" + value + "]", Op.add("/0" + step, "7"), 6);
                Probe.unpatched(label, "{\"a\":" + value + "}", Op.add("/a" + step, "7"), 6);
                Probe.unpatched(label, "{\"a\":" + value + "}", Op.copy("/a", "/a" + step), 6);
            }
        }
        for (String path : new String[] {"/b/c", "/b/0", "/a/1/0", "/a/-/0", "/a/00/0", "/a/0/b/c", "//a"}) {
            Probe.unpatched(label, "{\"a\":[{}]}", Op.add(path, "7"), 6);
        }
        for (String step : new String[] {"/", "/a", "/00", "/01", "/-1", "/--", "/2", "/1000"}) {
            Probe.unpatched("add: a step that fits nothing", "[1]", Op.add(step, "7"), 6);
        }
    }

    private static void addWithoutSteps() {
        String label = "add: when path has no steps, the whole document becomes the value";
        for (String document : new String[] {"null", "7", "[1,2]", "{\"a\":{}}"}) {
            for (String value : new String[] {"null", "\"\"", "[[]]", "{\"b\":0}"}) {
                Probe.patched(label, document, Op.add("", value), value);
            }
        }
    }

    private static void removeAtItsEnds() {
        String label = "remove: what path leads to is taken out (not the whole document)";
        Probe.patched(label, "[1,2,3]", Op.remove("/0"), "[2,3]");
        Probe.patched(label, "[1,2,3]", Op.remove("/1"), "[1,3]");
        Probe.patched(label, "[1,2,3]", Op.remove("/2"), "[1,2]");
        Probe.patched(label, "[1]", Op.remove("/0"), "[]");
        Probe.patched(label, "{\"a\":1,\"b\":2,\"c\":3}", Op.remove("/a"), "{\"b\":2,\"c\":3}");
        Probe.patched(label, "{\"a\":1,\"b\":2,\"c\":3}", Op.remove("/c"), "{\"a\":1,\"b\":2}");
        Probe.patched(label, "{\"\":1}", Op.remove("/"), "{}");
        Probe.patched(label, "[[[1,2]],3]", Op.remove("/0/0"), "[[],3]");
        Probe.patched(label, "[[[1,2]],3]", Op.remove("/0/0/1"), "[[[1]],3]");
        for (String document : new String[] {"null", "7", "[]", "[1]", "{}", "{\"\":1}"}) {
            Probe.unpatched(label, document, Op.remove(""), 6);
        }
        Probe.unpatched(label, "[1]", Op.remove("/1"), 6);
        Probe.unpatched(label, "[1]", Op.remove("/-"), 6);
        Probe.unpatched(label, "[]", Op.remove("/0"), 6);
        Probe.unpatched(label, "{}", Op.remove("/a"), 6);
    }

    private static void replaceAtItsEnds() {
        String label = "replace: what path leads to (also the whole document) becomes the value, in its place";
        Probe.patched(label, "[1,2,3]", Op.replace("/0", "[]"), "[[],2,3]");
        Probe.patched(label, "[1,2,3]", Op.replace("/2", "[]"), "[1,2,[]]");
        Probe.patched(label, "{\"a\":1,\"b\":2,\"c\":3}", Op.replace("/a", "{}"), "{\"a\":{},\"b\":2,\"c\":3}");
        Probe.patched(label, "{\"a\":1,\"b\":2,\"c\":3}", Op.replace("/c", "{}"), "{\"a\":1,\"b\":2,\"c\":{}}");
        Probe.patched(label, "{\"a\":[{\"b\":1}]}", Op.replace("/a/0/b", "2"), "{\"a\":[{\"b\":2}]}");
        Probe.patched(label, "{\"a\":[{\"b\":1}]}", Op.replace("/a/0", "2"), "{\"a\":[2]}");
        for (String document : new String[] {"null", "7", "[]", "{\"\":1}"}) {
            Probe.patched(label, document, Op.replace("", "[7]"), "[7]");
        }
        Probe.unpatched(label, "[1]", Op.replace("/1", "7"), 6);
        Probe.unpatched(label, "[1]", Op.replace("/-", "7"), 6);
        Probe.unpatched(label, "[]", Op.replace("/0", "7"), 6);
        Probe.unpatched(label, "{\"a\":1}", Op.replace("/b", "7"), 6);
        Probe.unpatched(label, "{\"a\":1}", Op.replace("/a/b", "7"), 6);
    }

    private static void copyAtItsEnds() {
        String label = "copy: add of what from leads to";
        Probe.patched(label, "[1,2]", Op.copy("/0", "/2"), "[1,2,1]");
        Probe.patched(label, "[1,2]", Op.copy("/1", "/-"), "[1,2,2]");
        Probe.patched(label, "[1,2]", Op.copy("/1", "/0"), "[2,1,2]");
        Probe.patched(label, "[1,2]", Op.copy("/0", "/0"), "[1,1,2]");
        Probe.patched(label, "{\"a\":1,\"b\":2}", Op.copy("/a", "/a"), "{\"a\":1,\"b\":2}");
        Probe.patched(label, "{\"a\":1,\"b\":2}", Op.copy("/b", "/a"), "{\"a\":2,\"b\":2}");
        Probe.patched(label, "{\"a\":{}}", Op.copy("/a", "/a/a"), "{\"a\":{\"a\":{}}}");
        Probe.patched(label, "{\"a\":{}}", Op.copy("", "/a/a"), "{\"a\":{\"a\":{\"a\":{}}}}");
        Probe.patched(label, "{\"a\":[1]}", Op.copy("", ""), "{\"a\":[1]}");
        Probe.patched(label, "{\"a\":[1]}", Op.copy("/a", ""), "[1]");
        Probe.patched(label, "[[1],2]", Op.copy("/0/0", "/0/1"), "[[1,1],2]");
        Probe.unpatched(label, "[1,2]", Op.copy("/2", "/0"), 6);
        Probe.unpatched(label, "[1,2]", Op.copy("/-", "/-"), 6);
        Probe.unpatched(label, "[1,2]", Op.copy("/0", "/3"), 6);
        Probe.unpatched(label, "{\"a\":1}", Op.copy("/b", "/b"), 6);
        Probe.unpatched(label, "{\"a\":1}", Op.copy("/a", "/b/c"), 6);
    }

    private static void moveToTheSamePlace() {
        String label = "move: when from and path are the same, nothing changes if they lead to something";
        for (String pointer : new String[] {"", "/a", "/a/0", "/a/1", "/", "/~01~1"}) {
            String document = "{\"a\":[1,{}],\"\":2,\"~1/\":3}";
            Probe.patched(label, document, Op.move(pointer, pointer), document);
        }
        Probe.patched(label, "7", Op.move("", ""), "7");
        Probe.patched(label, "[1,2,3]", Op.move("/0", "/0"), "[1,2,3]");
        Probe.patched(label, "[1,2,3]", Op.move("/2", "\\/2"), "[1,2,3]");
        for (String pointer : new String[] {"/b", "/a/2", "/a/-", "/a/0/0", "/a/00"}) {
            Probe.unpatched(label, "{\"a\":[1,{}]}", Op.move(pointer, pointer), 6);
        }
    }

    private static void moveIntoItself() {
        String label = "move: otherwise path must not begin with all the steps of from";
        Probe.unpatched(label, "{\"a\":{\"b\":1}}", Op.move("/a", "/a/b"), 6);
        Probe.unpatched(label, "{\"a\":{\"b\":1}}", Op.move("/a", "/a/c"), 6);
        Probe.unpatched(label, "{\"a\":{\"b\":1}}", Op.move("/a", "/a/"), 6);
        Probe.unpatched(label, "[[1],[2]]", Op.move("/0", "/0/0"), 6);
        Probe.unpatched(label, "[[1],[2]]", Op.move("/0", "/0/-"), 6);
        // Taken out first, the path would lead into the array behind it.
        Probe.unpatched(label, "[0,[1],[2]]", Op.move("/1", "/1/0"), 6);
        Probe.unpatched(label, "{\"\":{}}", Op.move("/", "//a"), 6);
        for (String document : new String[] {"7", "[]", "{}", "[[1]]", "{\"a\":1}"}) {
            for (String path : new String[] {"/a", "/0", "/-", "/"}) {
                Probe.unpatched(label, document, Op.move("", path), 6);
            }
        }
        String near = "these only look so: other steps, or fewer";
        Probe.patched(near, "{\"a\":1,\"ab\":{}}", Op.move("/a", "/ab/c"), "{\"ab\":{\"c\":1}}");
        Probe.patched(near, "{\"a\":1}", Op.move("/a", "/ab"), "{\"ab\":1}");
        Probe.patched(near, "{\"a\":1}", Op.move("/a", "/a~1b"), "{\"a/b\":1}");
        Probe.patched(near, "{\"a\":{\"b\":{\"c\":1}}}", Op.move("/a/b/c", "/a/b"), "{\"a\":{\"b\":1}}");
        Probe.patched(near, "{\"a\":{\"b\":{\"c\":1}}}", Op.move("/a/b", ""), "{\"c\":1}");
        Probe.patched(near, "[[],[],[2]]", Op.move("/1", "/0/0"), "[[[]],[2]]");
    }

    private static void moveAtItsEnds() {
        String label = "move: what from leads to is taken out, then added at path";
        Probe.patched(label, "[1,2,3]", Op.move("/0", "/1"), "[2,1,3]");
        Probe.patched(label, "[1,2,3]", Op.move("/0", "/2"), "[2,3,1]");
        Probe.patched(label, "[1,2,3]", Op.move("/0", "/-"), "[2,3,1]");
        Probe.patched(label, "[1,2,3]", Op.move("/2", "/-"), "[1,2,3]");
        Probe.patched(label, "[1,2,3]", Op.move("/2", "/0"), "[3,1,2]");
        Probe.unpatched(label, "[1,2,3]", Op.move("/0", "/3"), 6);
        Probe.unpatched(label, "[1]", Op.move("/0", "/1"), 6);
        Probe.patched(label, "[1,[2],[3]]", Op.move("/0", "/1/0"), "[[2],[1,3]]");
        Probe.unpatched(label, "[1,2,[3]]", Op.move("/0", "/2/0"), 6);
        Probe.unpatched(label, "[1,[2]]", Op.move("/0", "/1/0"), 6);
        Probe.patched(label, "[[2],1]", Op.move("/1", "/0/0"), "[[1,2]]");
        Probe.patched(label, "{\"a\":1,\"b\":2,\"c\":3}", Op.move("/a", "/c"), "{\"b\":2,\"c\":1}");
        Probe.patched(label, "{\"a\":1,\"b\":2,\"c\":3}", Op.move("/c", "/a"), "{\"a\":3,\"b\":2}");
        Probe.patched(label, "{\"a\":1,\"b\":2}", Op.move("/a", "/d"), "{\"b\":2,\"d\":1}");
        Probe.patched(label, "{\"a\":[1]}", Op.move("/a/0", ""), "1");
        Probe.patched(label, "{\"a\":[1],\"b\":{}}", Op.move("/a/0", "/b/c"), "{\"a\":[],\"b\":{\"c\":1}}");
        Probe.unpatched(label, "{\"a\":1,\"b\":2}", Op.move("/a", "/b/c"), 6);
        Probe.unpatched(label, "{\"a\":1,\"b\":2}", Op.move("/c", "/a"), 6);
    }

    private static void testAtItsEnds() {
        String label = "test: what path leads to must be equal to the value; a test that fails is UNLIKE";
        Probe.patched(label, "{\"a\":[null]}", Op.test("/a/0", "null"), "{\"a\":[null]}");
        Probe.unpatched(label, "{\"a\":[null]}", Op.test("/a/0", "0"), 7);
        Probe.unpatched(label, "{\"a\":[null]}", Op.test("/a/1", "null"), 6);
        Probe.unpatched(label, "{\"a\":[null]}", Op.test("/b", "null"), 6);
        Probe.unpatched(label, "{\"a\":[null]}", Op.test("/a/-", "null"), 6);
        Probe.patched(label, "{\"a\":{\"b\":1,\"c\":2}}", Op.test("/a", "{\"c\":2,\"b\":1}"), "{\"a\":{\"b\":1,\"c\":2}}");
    }

    private static void oneAfterTheOther() {
        String label = "operations are done one after the other";
        Probe.patched(label, "[]", Op.all(Op.add("/0", "1"), Op.add("/0", "2"), Op.add("/0", "3")), "[3,2,1]");
        Probe.patched(label, "{}", Op.all(Op.add("/a", "[]"), Op.add("/a/-", "1"), Op.test("/a", "[1]")), "{\"a\":[1]}");
        Probe.patched(label, "{\"a\":1}", Op.all(Op.remove("/a"), Op.add("/a", "2")), "{\"a\":2}");
        Probe.unpatched(label, "{\"a\":1}", Op.all(Op.remove("/a"), Op.remove("/a")), 6);
        Probe.unpatched(label, "[1]", Op.all(Op.test("/0", "2"), Op.remove("/1")), 7);
        Probe.unpatched(label, "[1]", Op.all(Op.remove("/1"), Op.test("/0", "2")), 6);
    }

    private static Probe narrow(String label) {
        Probe p = new Probe(label, 2, 4);
        p.put(0, "[[0],1]", 0);
        return p;
    }

    private static void deepAfterAnOperation() {
        Probe p = narrow("when the document is deeper than LIMIT after an operation, DEEP");
        p.patch(0, Op.replace("/0/0", "[]"), 2);
        p.patch(0, Op.replace("/1", "[[]]"), 2);
        p.patch(0, Op.move("/1", "/0/0"), 0);
        p.text(0, "[[1,0]]");
        p.patch(0, Op.replace("/0/0", "{}"), 2);
        p.patch(0, Op.add("/0", "[]"), 4);
        p.patch(0, Op.add("/0", "0"), 4);
        p.put(0, "[[],[]]", 0);
        p.patch(0, Op.move("/0", "/0/0"), 6);
        p.patch(0, Op.move("/1", "/0/0"), 2);
        p.patch(0, Op.copy("/0", "/0/0"), 2);
        p.patch(0, Op.copy("/0", "/0"), 0);
        p.text(0, "[[],[],[]]");
        // What comes later does not mend it.
        p.patch(0, Op.all(Op.add("/0/0", "[]"), Op.remove("/0/0")), 2);
        p.text(0, "[[],[],[]]");
    }

    private static void fullAfterAnOperation() {
        Probe p = narrow("otherwise when its count is above ROOM, FULL");
        p.patch(0, Op.add("/-", "2"), 4);
        p.patch(0, Op.add("/0/0", "2"), 4);
        p.patch(0, Op.copy("/1", "/1"), 4);
        p.patch(0, Op.replace("/1", "[0]"), 4);
        p.patch(0, Op.replace("/1", "[]"), 0);
        p.patch(0, Op.add("", "[0,0,0,0]"), 4);
        p.patch(0, Op.add("", "[0,0,0]"), 0);
        p.patch(0, Op.all(Op.add("/-", "1"), Op.remove("/0")), 4);
        p.patch(0, Op.all(Op.remove("/0"), Op.add("/-", "1")), 0);
        p.text(0, "[0,0,1]");
        p.patch(0, Op.move("/0", "/2"), 0);
        p.text(0, "[0,1,0]");
        // A patch may itself consist of more values than a document.
        p.patch(0, Op.all(Op.test("/0", "0"), Op.test("/1", "1"), Op.test("/2", "0")), 0);
    }

    private static void deepBeforeFull() {
        Probe p = narrow("DEEP, otherwise FULL");
        p.patch(0, Op.add("/0/0", "[]"), 2);
        p.patch(0, Op.add("/0/0", "[1,2,3]"), 2);
        p.patch(0, Op.copy("", "/-"), 2);
        p.patch(0, Op.copy("/0", "/-"), 4);
        p.patch(0, Op.all(Op.add("/-", "1"), Op.add("/0/0", "[]")), 4);
        p.patch(0, Op.all(Op.replace("/0/0", "[]"), Op.add("/-", "1")), 2);
        p.text(0, "[[0],1]");
    }

    private static void nothingOfAllThePatch() {
        String[] changes = {Op.add("", "7"), Op.remove("/0"), Op.replace("/1", "[]"), Op.move("/1", "/0"), Op.move("/1", "/0/0")};
        String[] faults = {Op.remove("/9"), Op.test("", "9"), Op.replace("", "[[],[],[],[]]"),
            "[{\"op\":\"copy\",\"from\":\"/9\",\"path\":\"\"}]"};
        int[] answers = {6, 7, 4, 6};
        for (String change : changes) {
            for (int i = 0; i < faults.length; i++) {
                Probe p = narrow("then nothing of all the patch is done");
                p.put(1, "[1]", 0);
                p.query(0, "$[0]", "[0]");
                p.patch(0, Op.all(change, faults[i]), answers[i]);
                p.text(0, "[[0],1]");
                p.due("depth", p.store.depth(0), 2);
                p.due("count", p.store.count(0), 4);
                p.text(1, "[1]");
                p.due("results", p.shown(), "[0]");
                p.patch(0, change, 0);
            }
        }
        Probe p = narrow("then nothing of all the patch is done");
        p.patch(0, Op.all(Op.remove("/1"), Op.add("/0/0", "[]")), 2);
        p.text(0, "[[0],1]");
    }

    private static void emptyPatch() {
        for (String document : new String[] {"null", "[]", "{\"a\":[1]}"}) {
            Probe.patched("a patch without operations changes nothing", document, "[]", document);
            Probe.patched("a patch without operations changes nothing", document, " [ ] ", document);
        }
    }
}
