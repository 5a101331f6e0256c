/** What "Terms" says of JSON, at its edges: each label is the sentence that would be broken. */
public final class JsonEdgesTest {
    public static void main(String[] args) {
        numbersAtBothEnds();
        numbersBeyondBothEnds();
        firstDigits();
        minusZero();
        charactersOfStrings();
        charactersBehindABackslash();
        emptyStringArrayAndObject();
        blanksWhereTheyMayStand();
        blanksWhereTheyMayNot();
        namesThatStandTwice();
        depths();
        counts();
        keptOrder();
        equalValues();
        unequalValues();
        texts();
        Probe.end();
    }

    private static void numbersAtBothEnds() {
        String label = "a NUMBER is an integer from -2^63 to 2^63 - 1";
        for (String number : new String[] {"9223372036854775807", "9223372036854775806", "9223372036854775799",
            "-9223372036854775808", "-9223372036854775807", "-9223372036854775799", "1000000000000000000", "-1000000000000000000"}) {
            Probe.read(label, number, number);
            Probe.read(label, "[" + number + "," + number + "]", "[" + number + "," + number + "]");
            Probe.read(label, "{\"a\":" + number + "}", "{\"a\":" + number + "}");
            Probe.patched(label, "[0]", Op.replace("/0", number), "[" + number + "]");
        }
    }

    /** Some of these would be small numbers, had they been wrapped around. */
    private static void numbersBeyondBothEnds() {
        String label = "a NUMBER is an integer from -2^63 to 2^63 - 1";
        for (String number : new String[] {"9223372036854775808", "-9223372036854775809", "9223372036854775810", "-9223372036854775810",
            "9223372036854775900", "9999999999999999999", "-9999999999999999999", "10000000000000000000", "18446744073709551615",
            "18446744073709551616", "18446744073709551617", "-18446744073709551616", "-18446744073709551617", "27670116110564327424",
            "36893488147419103233", "92233720368547758070", "-92233720368547758080", "1" + "0".repeat(100)}) {
            Probe.unread(label, number, 1);
            Probe.unread(label, "[" + number + "]", 1);
            Probe.unread(label, "{\"a\":" + number + "}", 1);
        }
        Probe.unpatched(label, "[0]", Op.replace("/0", "9223372036854775808"), 1);
    }

    private static void firstDigits() {
        String label = "a NUMBER is 0, or digits of which the first is not 0, perhaps with - before them";
        for (String number : new String[] {"0", "1", "9", "10", "90", "100", "-1", "-9", "-10", "1001"}) {
            Probe.read(label, number, number);
        }
        for (String number : new String[] {"00", "01", "09", "001", "-00", "-01", "-09", "-", "--0", "--1", "-a", "+0", "+1", "0-", "1-",
            "1-1", "0x1", "1.0", "1e1", ".1", "1.", "1,"}) {
            Probe.unread(label, number, 1);
            Probe.unread(label, "[" + number + "]", 1);
        }
    }

    private static void minusZero() {
        String label = "-0 is 0";
        Probe.read(label, "-0", "0");
        Probe.read(label, "[-0,0]", "[0,0]");
        Probe.patched(label, "[0]", Op.test("/0", "-0"), "[0]");
        Probe.patched(label, "[-0]", Op.test("/0", "0"), "[0]");
        Probe.patched(label, "[1]", Op.replace("/0", "-0"), "[0]");
        Probe.asked(label, "[-0,1,-1]", "$[?@==0]", "0");
        Probe.asked(label, "[0,1,-1]", "$[?@==-0]", "0");
        Probe.asked(label, "[-0,1,-1]", "$[?@<0]", "-1");
    }

    private static void charactersOfStrings() {
        String label = "a string is characters between two \": those with the codes 32 .. 126 but \" and \\";
        for (char c : Probe.everyCharacter().toCharArray()) {
            if (c != '"' && c != '\\') {
                Probe.read(label, "\"" + c + "\"", "\"" + c + "\"");
                Probe.read(label, "{\"" + c + "\":1}", "{\"" + c + "\":1}");
            }
        }
        Probe.unread(label, "\"\"\"", 1);
        Probe.unread(label, "\"\\\"", 1);
        Probe.unread(label, "{\"\\\":1}", 1);
        Probe.unread(label, "'a'", 1);
    }

    private static void charactersBehindABackslash() {
        String label = "and \\\", \\\\ and \\/, which mean the second of them";
        Probe.read(label, "\"\\\"\"", "\"\\\"\"");
        Probe.read(label, "\"\\\\\"", "\"\\\\\"");
        Probe.read(label, "\"\\/\"", "\"/\"");
        Probe.read(label, "\"\\\\\\\"\\/\\\\n\"", "\"\\\\\\\"/\\\\n\"");
        Probe.read(label, "{\"\\\"\":1,\"\\\\\":2,\"\\/\":3}", "{\"\\\"\":1,\"\\\\\":2,\"/\":3}");
        for (char c : Probe.everyCharacter().toCharArray()) {
            if (c != '"' && c != '\\' && c != '/') {
                Probe.unread(label, "\"\\" + c + "\"", 1);
                Probe.unread(label, "{\"\\" + c + "\":1}", 1);
            }
        }
        // The second " is not the end of the string, and the backslash behind another means no more than itself.
        Probe.unread(label, "\"\\\"", 1);
        Probe.read(label, "[\"\\\\\",\"\"]", "[\"\\\\\",\"\"]");
    }

    private static void emptyStringArrayAndObject() {
        for (String empty : new String[] {"\"\"", "[]", "{}"}) {
            Probe.read("a value that is empty", empty, empty);
            Probe.read("a value that is empty", "[" + empty + "]", "[" + empty + "]");
            Probe.read("a value that is empty", "{\"\":" + empty + "}", "{\"\":" + empty + "}");
            Probe.patched("a value that is empty", "[1]", Op.replace("/0", empty), "[" + empty + "]");
        }
        for (String wrong : new String[] {"[,]", "{,}", "[,1]", "[1,]", "[1,,1]", "{\"a\":1,}", "{,\"a\":1}", "{:}", "{\"a\"}", "{\"a\":}",
            "{:1}"}) {
            Probe.unread("commas stand between", wrong, 1);
        }
    }

    private static void blanksWhereTheyMayStand() {
        String label = "blanks may stand before and behind values, names, brackets, commas and colons";
        String[] pieces = {"{", "\"a\"", ":", "[", "1", ",", "-2", ",", "\"x\"", ",", "true", "]", ",", "\"b\"", ":", "{", "}", ",", "\"\"",
            ":", "[", "]", ",", "\"c\"", ":", "null", "}"};
        String due = String.join("", pieces);
        for (int gap = 0; gap <= pieces.length; gap++) {
            StringBuilder draft = new StringBuilder();
            for (int i = 0; i <= pieces.length; i++) {
                draft.append(i == gap ? "  " : "").append(i < pieces.length ? pieces[i] : "");
            }
            Probe.read(label, draft.toString(), due);
        }
        Probe.read(label, " " + String.join(" ", pieces) + " ", due);
        for (String value : new String[] {"null", "true", "false", "0", "-7", "\"\"", "[]", "{}"}) {
            Probe.read(label, "  " + value + "  ", value);
        }
        Probe.read(label, " ".repeat(79) + "[]" + " ".repeat(79), "[]");
    }

    private static void blanksWhereTheyMayNot() {
        String label = "no other place is named for blanks";
        for (String wrong : new String[] {"", " ", " ".repeat(160), "n ull", "nul l", "t rue", "tru e", "f alse", "fals e", "- 1", "- 0",
            "1 0", "-1 0", "1 2", "[1 2]", "[null null]", "[[] []]", "{\"a\" \"b\":1}", "{\"a\":1 \"b\":2}", "\"\\ \"", "\"\\ \"\"",
            "\"a\" \"b\""}) {
            Probe.unread(label, wrong, 1);
        }
        Probe.read("blanks in strings are characters", " \" a  b \" ", "\" a  b \"");
        Probe.read("blanks in names are characters", "{\" \":1,\"\":2,\"  \":3}", "{\" \":1,\"\":2,\"  \":3}");
    }

    private static void namesThatStandTwice() {
        String label = "no name may stand twice in one object";
        for (String twice : new String[] {"{\"a\":1,\"a\":1}", "{\"\":1,\"\":2}", "{\"a\":1,\"b\":2,\"a\":3}", "{\"a\":1,\"b\":2,\"b\":3}",
            "{\"/\":1,\"\\/\":2}", "[{\"a\":1,\"a\":2}]", "{\"x\":{\"a\":1,\"a\":2}}", "{\"a\":{\"a\":1},\"a\":2}",
            "{\"a\":[],\"a\":{}}"}) {
            Probe.unread(label, twice, 3);
        }
        for (String once : new String[] {"{\"a\":{\"a\":{\"a\":1}}}", "[{\"a\":1},{\"a\":1}]",
            "{\"a\":1,\"A\":2,\" a\":3,\"a \":4,\"aa\":5,\"\":6}", "{\"a\":{\"b\":1},\"b\":{\"a\":2}}", "{\"x\":\"a\",\"a\":\"x\"}"}) {
            Probe.read(label, once, once);
        }
    }

    private static void depths() {
        depth("0 for null, true, false, numbers and strings", 0, "null", "true", "false", "0", "-1", "\"\"", "\"[[]]\"");
        depth("1 when it is empty", 1, "[]", "{}");
        depth("one more than that of the deepest one in it", 1, "[0]", "[0,1,2]", "{\"a\":\"\"}");
        depth("one more than that of the deepest one in it", 2, "[[]]", "[{}]", "{\"a\":[]}", "[[],1]", "[1,[]]", "{\"a\":{},\"b\":0}",
            "[[],[],[]]");
        depth("one more than that of the deepest one in it", 3, "[[[]],[]]", "[[],[[]],[]]", "{\"a\":1,\"b\":[{}]}", "[[[0]]]");
        depth("one more than that of the deepest one in it", 8, "[[[[[[[[]]]]]]]]", "[0,[[[[[[[0]]]]]],[]]]");
    }

    private static void depth(String label, int due, String... texts) {
        for (String text : texts) {
            Probe p = new Probe("the DEPTH of a value is " + label);
            p.put(0, text, 0);
            p.due("depth of " + text, p.store.depth(0), due);
        }
    }

    private static void counts() {
        count(1, "null", "false", "0", "\"\"", "\"a,b\"", "[]", "{}");
        count(2, "[0]", "[[]]", "[{}]", "{\"a\":null}", "{\"a\":{}}");
        count(3, "[0,0]", "[[0]]", "[[[]]]", "{\"a\":1,\"b\":1}", "{\"a\":[1]}", "[[],[]]");
        count(7, "[0,[1,{\"a\":2,\"b\":[]}]]", "[[],[],[],[],[],[]]");
        count(32, "[" + "0,".repeat(30) + "0]");
    }

    private static void count(int due, String... texts) {
        for (String text : texts) {
            Probe p = new Probe("its COUNT is the number of all values that it consists of, itself included");
            p.put(0, text, 0);
            p.due("count of " + text, p.store.count(0), due);
        }
    }

    private static void keptOrder() {
        String label = "members and elements keep their order";
        for (String same : new String[] {"[3,1,2]", "{\"c\":1,\"a\":2,\"b\":3}", "{\"b\":{\"z\":[2,1],\"y\":0},\"a\":null}",
            "{\"2\":0,\"10\":0,\"1\":0}"}) {
            Probe.read(label, same, same);
        }
        Probe.asked(label, "{\"c\":1,\"a\":2,\"b\":3}", "$.*", "1 | 2 | 3");
    }

    private static void equalValues() {
        String label = "two values are EQUAL when they are the same but for the order of members";
        for (String other : new String[] {"{\"a\":1,\"b\":[],\"c\":{}}", "{\"a\":1,\"c\":{},\"b\":[]}", "{\"b\":[],\"a\":1,\"c\":{}}",
            "{\"b\":[],\"c\":{},\"a\":1}", "{\"c\":{},\"a\":1,\"b\":[]}", "{\"c\":{},\"b\":[],\"a\":1}"}) {
            Probe.patched(label, "{\"a\":1,\"b\":[],\"c\":{}}", Op.test("", other), "{\"a\":1,\"b\":[],\"c\":{}}");
        }
        Probe.patched(label, "[{\"x\":{\"a\":1,\"b\":2},\"y\":0}]", Op.test("", "[{\"y\":0,\"x\":{\"b\":2,\"a\":1}}]"),
            "[{\"x\":{\"a\":1,\"b\":2},\"y\":0}]");
        for (String same : new String[] {"null", "true", "false", "0", "-9223372036854775808", "\"\"", "\"\\\"\\\\\"", "[]", "{}",
            "[[],{}]", "{\"\":\"\"}"}) {
            Probe.patched(label, same, Op.test("", same), same);
        }
    }

    private static void unequalValues() {
        String label = "values that are not the same are not EQUAL";
        String[][] pairs = {{"[1,2]", "[2,1]"}, {"[1]", "[1,1]"}, {"[1,1]", "[1]"}, {"[]", "[[]]"}, {"[]", "{}"}, {"[]", "null"},
            {"{}", "null"}, {"\"\"", "null"}, {"\"\"", "[]"}, {"0", "false"}, {"0", "\"0\""}, {"0", "\"\""}, {"1", "true"}, {"1", "[1]"},
            {"1", "-1"}, {"null", "false"}, {"null", "\"null\""}, {"true", "\"true\""}, {"true", "false"}, {"\"a\"", "\"A\""},
            {"\"a\"", "\"a \""}, {"\"a\"", "\"\""}, {"9223372036854775807", "9223372036854775806"},
            {"9223372036854775807", "-9223372036854775808"}, {"[1]", "{\"0\":1}"}, {"{\"a\":1,\"b\":2}", "{\"a\":2,\"b\":1}"},
            {"{\"a\":1,\"b\":2}", "{\"a\":1}"}, {"{\"a\":1}", "{\"a\":1,\"b\":2}"}, {"{\"a\":1}", "{\"A\":1}"}, {"{\"a\":1}", "{\"b\":1}"},
            {"{\"a\":[1,2]}", "{\"a\":[2,1]}"}, {"{\"a\":{}}", "{\"a\":[]}"}, {"[[1],[2]]", "[[2],[1]]"}, {"[[1,2]]", "[[1],2]"}};
        for (String[] pair : pairs) {
            Probe.unpatched(label, pair[0], Op.test("", pair[1]), 7);
            Probe.unpatched(label, pair[1], Op.test("", pair[0]), 7);
        }
    }

    private static void texts() {
        String label = "its TEXT is without blanks; in strings \" and \\ have a \\ before them, nothing else has";
        Probe.read(label, " { \"a b\" : [ 1 , { } , [ ] , \" \" ] , \"\" : null } ", "{\"a b\":[1,{},[],\" \"],\"\":null}");
        for (char c : Probe.everyCharacter().toCharArray()) {
            String written = c == '"' || c == '\\' ? "\\" + c : "" + c;
            Probe p = new Probe(label);
            p.put(0, "{\"" + written + "\":\"" + written + "\"}", 0);
            p.text(0, "{\"" + written + "\":\"" + written + "\"}");
            p.query(0, "$.*", "\"" + written + "\"");
        }
        Probe.read(label, "\"\\/'\\\\/\\\"\"", "\"/'\\\\/\\\"\"");
    }
}
