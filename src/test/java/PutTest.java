/** Promise 3: put, and with it the reading of JSON. */
public final class PutTest {
    public static void main(String[] args) {
        values();
        blanks();
        syntax();
        longDrafts();
        deep();
        twice();
        full();
        whatStays();
        Probe.end();
    }

    private static void values() {
        for (String same : new String[] {"null", "true", "false", "0", "7", "-7", "10", "1234567890123",
            "9223372036854775807", "-9223372036854775808", "-9223372036854775807", "\"\"", "\"a b~!#'\"",
            "\"\\\"\\\\\"", "[]", "{}", "[[],{}]", "[null,true,false,-1,\"\",[],{}]", "{\"\":0}",
            "{\"b\":1,\"a\":2,\"\\\"\":{\"b\":[]}}", "{\"a\":1,\"A\":2,\"aa\":3}", "[1,1]"}) {
            new Probe("values").reads(same, same);
        }
        Probe p = new Probe("values");
        p.reads("-0", "0");
        p.reads("[-0,0]", "[0,0]");
        p.reads("\"\\/\"", "\"/\"");
        p.reads("\"\\/\\\\\\\"/\"", "\"/\\\\\\\"/\"");
        p.reads("{\"\\/\":1,\"\\\\\":2}", "{\"/\":1,\"\\\\\":2}");
    }

    private static void blanks() {
        Probe p = new Probe("blanks");
        p.reads("  7  ", "7");
        p.reads(" [ ] ", "[]");
        p.reads(" { } ", "{}");
        p.reads(" [ 1 , [ 2 ] , \" \" ] ", "[1,[2],\" \"]");
        p.reads(" { \" a\" : 1 , \"b\" : { } } ", "{\" a\":1,\"b\":{}}");
    }

    private static void syntax() {
        for (String wrong : new String[] {"", "   ", "x", "nul", "nulL", "nullx", "null null", "tru", "truE", "fals", "fal se",
            "True", "-", "- 1", "--1", "+1", "00", "01", "-01", "1.0", "1e3", "1 2", "9223372036854775808",
            "-9223372036854775809", "99999999999999999999999999", "[9223372036854775808", "\"", "\"a", "\"\\\"", "\"\\n\"",
            "\"\\u0041\"", "\"\\'\"", "\"a\"b", "'a'", "[", "]", "[1", "[1,", "[1,]", "[,1]", "[,]", "[1 2]", "[1}", "[]]",
            "[] []", "{", "}", "{]", "{,}", "{\"a\"", "{\"a\"}", "{\"a\":", "{\"a\":}", "{\"a\" 1}", "{\"a\":1", "{\"a\":1,",
            "{\"a\":1,}", "{\"a\":1]", "{a:1}", "{1:1}", "{null:1}", "{\"a\":1 \"b\":2}", "{\"a\"::1}", "{\"a\":1,,\"b\":2}"}) {
            Probe p = new Probe("syntax");
            p.put(0, wrong, 1);
            p.text(0, null);
        }
    }

    /** Drafts that end where their room ends. */
    private static void longDrafts() {
        Probe p = new Probe("long drafts");
        p.put(0, "[" + " ".repeat(159), 1);
        p.put(0, "\"" + "a".repeat(159), 1);
        p.put(0, "\"" + "a".repeat(158) + "\\", 1);
        p.put(0, " ".repeat(159) + "-", 1);
        p.put(0, " ".repeat(157) + "nul", 1);
        p.put(0, "{\"" + "a".repeat(155) + "\" ", 1);
        p.put(0, "1".repeat(160), 1);
        p.put(0, " ".repeat(159) + "1", 0);
        p.text(0, "1");
    }

    private static void deep() {
        Probe p = new Probe("deep", 2, 32);
        p.put(0, "[[1],{\"a\":2}]", 0);
        p.put(0, "[[[", 2);
        p.put(0, "[[{", 2);
        p.put(0, "{\"a\":{\"b\":[x", 2);
        p.put(0, "[[1],[2],[[3]]]", 2);
        p.put(0, "[[],[],[]]", 0);
        p.put(0, "[[1[", 1);
        p.put(0, "[[1],x,[[[", 1);
        p.put(0, "[[[],x", 2);
        p.put(0, "{\"a\":1,\"b\":[[]],\"a\":1}", 2);
        p.put(0, "\"[[[[\"", 0);
        p.text(0, "\"[[[[\"");
    }

    private static void twice() {
        Probe p = new Probe("twice", 2, 3);
        p.put(0, "{\"a\":1,\"a\":2}", 3);
        p.put(0, "{\"a\":1,\"a\"", 3);
        p.put(0, "{\"a\":1,\"a", 1);
        p.put(0, "{\"a\":1,\"a\"[[[", 3);
        p.put(0, "{\"a\":1,\"b\":2,\"c\":3,\"d\":4,\"a\"", 3);
        p.put(0, "{\"\":1,\"\":2}", 3);
        p.put(0, "{\"\\/\":1,\"/\":2}", 3);
        p.put(0, "{\"a\":{\"b\":1,\"b\":2}}", 3);
        p.put(0, "{\"a\":{\"a\":1}}", 0);
        p.put(0, "[{\"a\":{}},{\"a\":1}]", 2);
        p.put(0, "{\"a\":1,\"A\":2}", 0);
        p.put(0, "{\"a\":x,\"a\":2}", 1);
    }

    private static void full() {
        Probe p = new Probe("full", 3, 4);
        p.put(0, "[1,2,3]", 0);
        p.put(0, "[1,2,3,4]", 4);
        p.put(0, "[1,2,3,4", 1);
        p.put(0, "[1,2,3,4,[[[", 2);
        p.put(0, "{\"a\":{\"b\":[1]}}", 0);
        p.put(0, "{\"a\":{\"b\":[1,2]}}", 4);
        p.put(0, "[[],[],[]]", 0);
        p.put(0, "[[],[],[],{}]", 4);
    }

    private static void whatStays() {
        Probe p = new Probe("stays", 1, 2);
        p.put(0, "[1]", 0);
        p.put(1, "{\"a\":\"b\"}", 0);
        p.put(0, "[[", 2);
        p.put(0, "[", 1);
        p.put(0, "{\"a\":1,\"a\":1}", 3);
        p.put(0, "[1,2]", 4);
        p.put(3, "5", -1);
        p.put(-1, "5", -1);
        p.put(Integer.MIN_VALUE, "5", -1);
        p.put(Integer.MAX_VALUE, "[", -1);
        p.text(0, "[1]");
        p.text(1, "{\"a\":\"b\"}");
        p.text(2, null);
        p.put(0, "5", 0);
        p.text(0, "5");
        p.text(1, "{\"a\":\"b\"}");
    }
}
