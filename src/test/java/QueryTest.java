/** Promise 6: query. */
public final class QueryTest {
    private static final String BOOK = "{\"a\":[1,{\"b\":2,\"a\":[3]},\"s\"],\"b\":{\"c\":null},\"c d\":true}";

    public static void main(String[] args) {
        names();
        indexes();
        slices();
        all();
        descent();
        accesses();
        comparisons();
        order();
        blanks();
        noPaths();
        fullLists();
        answersBefore();
        Probe.end();
    }

    /** A document that each path asks in a store of its own: no object is used for more than 512 calls. */
    private static final class Asked {
        private final String document;

        Asked(String document) {
            this.document = document;
        }

        private Probe probe() {
            return Probe.asking("query", document);
        }

        void query(String path, String due) {
            Probe.asked("query", document, path, due);
        }

        void noPath(String path) {
            Probe.noPath("query", document, path);
        }
    }

    private static void names() {
        Asked p = new Asked(BOOK);
        p.query("$", BOOK);
        p.query("$.a", "[1,{\"b\":2,\"a\":[3]},\"s\"]");
        p.query("$.b.c", "null");
        p.query("$['b'][\"c\"]", "null");
        p.query("$['c d']", "true");
        p.query("$[\"c d\"]", "true");
        p.query("$['a','b','a']['c']", "null");
        p.query("$.A", "");
        p.query("$.a.a", "");
        p.query("$.b.c.d", "");
        p.query("$['']", "");
        p = new Asked("{\"\":1,\"'\":2,\"\\\"\":3,\"\\\\\":4,\"/\":5,\"_1\":6,\"Zz9_\":7}");
        p.query("$['']", "1");
        p.query("$['\\'']", "2");
        p.query("$[\"'\"]", "2");
        p.query("$['\"']", "3");
        p.query("$[\"\\\"\"]", "3");
        p.query("$['\\\\',\"\\\\\"]", "4 | 4");
        p.query("$['\\/',\"\\/\",'/']", "5 | 5 | 5");
        p.query("$._1", "6");
        p.query("$.Zz9_", "7");
        p.noPath("$[\"\\'\"]");
        p.noPath("$['\\\"']");
        p.noPath("$['\\n']");
    }

    private static void indexes() {
        Asked p = new Asked("[10,11,[12,13]]");
        p.query("$[0]", "10");
        p.query("$[2]", "[12,13]");
        p.query("$[3]", "");
        p.query("$[999]", "");
        p.query("$[-1]", "[12,13]");
        p.query("$[-3]", "10");
        p.query("$[-4]", "");
        p.query("$[-999]", "");
        p.query("$[-1][-1]", "13");
        p.query("$[0][0]", "");
        p.query("$[1,0,1]", "11 | 10 | 11");
        p.query("$['0']", "");
        for (String index : new String[] {"00", "01", "-0", "-", "1000", "-1000", "0123", "+1", "1.0", "--1", "-01"}) {
            p.noPath("$[" + index + "]");
        }
        p = new Asked("{\"0\":1}");
        p.query("$[0]", "");
        p.query("$[-1]", "");
        p.query("$['0']", "1");
    }

    private static void slices() {
        Asked p = new Asked("[0,1,2,3,4,5,6]");
        p.query("$[:]", "0 | 1 | 2 | 3 | 4 | 5 | 6");
        p.query("$[::]", "0 | 1 | 2 | 3 | 4 | 5 | 6");
        p.query("$[2:4]", "2 | 3");
        p.query("$[2:4:]", "2 | 3");
        p.query("$[5:]", "5 | 6");
        p.query("$[:2]", "0 | 1");
        p.query("$[1:6:2]", "1 | 3 | 5");
        p.query("$[::3]", "0 | 3 | 6");
        p.query("$[::999]", "0");
        p.query("$[-2:]", "5 | 6");
        p.query("$[:-5]", "0 | 1");
        p.query("$[-999:999]", "0 | 1 | 2 | 3 | 4 | 5 | 6");
        p.query("$[999:]", "");
        p.query("$[4:2]", "");
        p.query("$[3:3]", "");
        p.query("$[::-1]", "6 | 5 | 4 | 3 | 2 | 1 | 0");
        p.query("$[4:1:-1]", "4 | 3 | 2");
        p.query("$[4::-2]", "4 | 2 | 0");
        p.query("$[:4:-1]", "6 | 5");
        p.query("$[999:-999:-3]", "6 | 3 | 0");
        p.query("$[:-1:-1]", "");
        p.query("$[:-3:-1]", "6 | 5");
        p.query("$[-7::-1]", "0");
        p.query("$[-8::-1]", "");
        p.query("$[1:4:-1]", "");
        p.query("$[::0]", "");
        p.query("$[1:2:0]", "");
        p.query("$[0:1,-1:]", "0 | 6");
        for (String slice : new String[] {":::", "1:2:3:4", "01:", ":01", "::01", "-0:", ":-0", "::-0", "-:", ":-", "1000:", ":1000",
            "::1000", "a:", "1 :2", "1: 2", "1:2 :3", "1:2: 3", "*:", ":*"}) {
            p.noPath("$[" + slice + "]");
        }
        p = new Asked("[]");
        p.query("$[:]", "");
        p.query("$[::-1]", "");
        p.query("$[-1:1:-1]", "");
        p = new Asked("{\"a\":1}");
        p.query("$[:]", "");
        p = new Asked("\"abc\"");
        p.query("$[:]", "");
    }

    private static void all() {
        Asked p = new Asked(BOOK);
        p.query("$.*", "[1,{\"b\":2,\"a\":[3]},\"s\"] | {\"c\":null} | true");
        p.query("$[*]", "[1,{\"b\":2,\"a\":[3]},\"s\"] | {\"c\":null} | true");
        p.query("$.*.*", "1 | {\"b\":2,\"a\":[3]} | \"s\" | null");
        p.query("$.*.*.*.*.*", "");
        p.query("$.a[*].*", "2 | [3]");
        p = new Asked("7");
        p.query("$.*", "");
    }

    private static void descent() {
        Asked p = new Asked(BOOK);
        p.query("$..a", "[1,{\"b\":2,\"a\":[3]},\"s\"] | [3]");
        p.query("$..b", "{\"c\":null} | 2");
        p.query("$..*", "[1,{\"b\":2,\"a\":[3]},\"s\"] | {\"c\":null} | true | 1 | {\"b\":2,\"a\":[3]} | \"s\""
            + " | 2 | [3] | 3 | null");
        p.query("$..[0]", "1 | 3");
        p.query("$..['b',0]", "{\"c\":null} | 1 | 2 | 3");
        p.query("$..[-1:]", "\"s\" | 3");
        p.query("$..[?@==3]", "3");
        p.query("$.a..a", "[3]");
        p.query("$..a..a", "[3]");
        p.query("$..a[0]", "1 | 3");
        p = new Asked("[[[1]]]");
        p.query("$..*", "[[1]] | [1] | 1");
        p.query("$..[0]..[0]", "[1] | 1 | 1");
        p = new Asked("7");
        p.query("$..*", "");
    }

    private static void accesses() {
        Asked p = new Asked("[{\"a\":null},{\"a\":[1,{\"b\":2}]},[5],7,{\"b c\":0},{}]");
        p.query("$[?@]", "{\"a\":null} | {\"a\":[1,{\"b\":2}]} | [5] | 7 | {\"b c\":0} | {}");
        p.query("$[?@.a]", "{\"a\":null} | {\"a\":[1,{\"b\":2}]}");
        p.query("$[?@.a[0]]", "{\"a\":[1,{\"b\":2}]}");
        p.query("$[?@['a'][-1].b]", "{\"a\":[1,{\"b\":2}]}");
        p.query("$[?@.a[1][\"b\"]==2]", "{\"a\":[1,{\"b\":2}]}");
        p.query("$[?@[0]]", "[5]");
        p.query("$[?@[-1]==5]", "[5]");
        p.query("$[?@[1]]", "");
        p.query("$[?@[\"b c\"]]", "{\"b c\":0}");
        p.query("$[?@.a.a]", "");
        p = new Asked("{\"x\":{\"k\":1},\"y\":{\"k\":2},\"z\":3}");
        p.query("$[?@.k]", "{\"k\":1} | {\"k\":2}");
        p.query("$[?@.k==2,?@==3]", "{\"k\":2} | 3");
        p.query("$[?@.k>0].k", "1 | 2");
    }

    private static void comparisons() {
        Asked p = new Asked("[null,true,false,-1,0,2,\"\",\"a\",\"ab\",\"b\",[],{}]");
        p.query("$[?@==null]", "null");
        p.query("$[?@==true]", "true");
        p.query("$[?@==false]", "false");
        p.query("$[?@==-0]", "0");
        p.query("$[?@=='ab']", "\"ab\"");
        p.query("$[?@==\"\"]", "\"\"");
        p.query("$[?@!=0]", "null | true | false | -1 | 2 | \"\" | \"a\" | \"ab\" | \"b\" | [] | {}");
        p.query("$[?@<0]", "-1");
        p.query("$[?@<=0]", "-1 | 0");
        p.query("$[?@>0]", "2");
        p.query("$[?@>=0]", "0 | 2");
        p.query("$[?@<'ab']", "\"\" | \"a\"");
        p.query("$[?@<='ab']", "\"\" | \"a\" | \"ab\"");
        p.query("$[?@>'ab']", "\"b\"");
        p.query("$[?@>='ab']", "\"ab\" | \"b\"");
        p.query("$[?@<='B']", "\"\"");
        p.query("$[?@<null]", "");
        p.query("$[?@>true]", "");
        p.query("$[?@<=null]", "null");
        p.query("$[?@>=true]", "true");
        p.query("$[?@>=false]", "false");
        p.query("$[?@.a==1]", "");
        p.query("$[?@.a<1]", "");
        p.query("$[?@.a<=1]", "");
        p.query("$[?@.a>=1]", "");
        p.query("$[?@.a!=1,0]", "null | true | false | -1 | 0 | 2 | \"\" | \"a\" | \"ab\" | \"b\" | [] | {} | null");
        p = new Asked("[-9223372036854775808,9223372036854775807,1000]");
        p.query("$[?@<-9223372036854775807]", "-9223372036854775808");
        p.query("$[?@>9223372036854775806]", "9223372036854775807");
        p.query("$[?@>-9223372036854775808]", "9223372036854775807 | 1000");
        p.query("$[?@==1000]", "1000");
        p.noPath("$[?@==9223372036854775808]");
        p.noPath("$[?@==-9223372036854775809]");
    }

    private static void order() {
        Asked p = new Asked("[[1,2],[3,4]]");
        p.query("$[*][1,0]", "2 | 1 | 4 | 3");
        p.query("$[1,0][*]", "3 | 4 | 1 | 2");
        p.query("$..[1,0]", "[3,4] | [1,2] | 2 | 1 | 4 | 3");
        p.query("$[0,0]", "[1,2] | [1,2]");
    }

    private static void blanks() {
        Asked p = new Asked("{\"a\":[1,2],\"b\":3}");
        p.query("$[ 'a' ][ 0 , 1 ]", "1 | 2");
        p.query("$[  *  ,  'b'  ]", "[1,2] | 3 | 3");
        p.query("$.a[ : ]", "1 | 2");
        p.query("$[ ?@  ]", "[1,2] | 3");
        p.query("$[ ?@[ 0 ]  ==  1  , ?@ <= 3]", "[1,2] | 3");
        p.query("$..[ ?@[ 'x' ] != null ]", "[1,2] | 3 | 1 | 2");
        for (String path : new String[] {" $", "$ ", "$ .a", "$. a", "$.a ", "$.a .b", "$ [0]", "$[0] ", "$.. a", "$. .a", "$.. [0]",
            "$[? @]", "$[?@ .a]", "$[?@. a]", "$[?@ [0]]", "$[?@= =1]", "$[?@< =1]", "$[?@! =1]", "$[- 1]", "$[?@==- 1]"}) {
            p.noPath(path);
        }
    }

    private static void noPaths() {
        Asked p = new Asked("[0]");
        for (String path : new String[] {"", "a", "@", "$$", "$a", "$.", "$..", "$...a", "$.1", "$.1a", "$.a-b", "$.a.", "$.'a'", "$.\"a\"",
            "$.[0]", "$..1", "$..'a'", "$..?@", "$[", "$[]", "$[ ]", "$]", "$[0", "$[0]]", "$[0,]", "$[,0]", "$[0,,1]", "$[0 1]", "$[a]",
            "$[']", "$['a]", "$['a\"]", "$[\"a']", "$['a'b]", "$[**]", "$.**", "$[*", "$[?]", "$[?1]", "$[?@", "$[?@.]", "$[?@.1]",
            "$[?@.*]", "$[?@[*]]", "$[?@[]]", "$[?@[0]", "$[?@[0,1]]", "$[?@[0:1]]", "$[?@[01]]", "$[?@[?@]]", "$[?@..a]", "$[?$]",
            "$[?@@]", "$[?@=1]", "$[?@=]", "$[?@!1]", "$[?@!]", "$[?@===1]", "$[?@==]", "$[?@<]", "$[?@<>1]", "$[?@=<1]", "$[?@=>1]",
            "$[?@==nul]", "$[?@==nulll]", "$[?@==True]", "$[?@==01]", "$[?@==1.0]", "$[?@==-]", "$[?@==a]", "$[?@==@]", "$[?@==[]]",
            "$[?@=={}]", "$[?@=='a]", "$[?@==1==1]", "$[?1==@]", "$[?@.a b]", "$[?(@.a)]", "$(0)", "$.a[", "$.a]", "$.a$", "$.*a", "$.*.",
            "$~"}) {
            p.noPath(path);
        }
        // These end where the room of the draft ends.
        p.noPath("$[" + " ".repeat(158));
        p.noPath("$[?@==" + " ".repeat(154));
        p.noPath("$['" + "a".repeat(156) + "\\");
        p.noPath("$" + ".a".repeat(79) + ".");
        p.query("$." + "a".repeat(158), "");
    }

    private static void fullLists() {
        Probe p = new Asked("[0,1,2,3,4,5,6,7]").probe();
        p.queryAnswers(0, "$[*,*,*,*,*]", 40);
        p.queryAnswers(0, "$[*,*,*,*,*,0]", -4);
        p.due("results", p.store.results(), 40);
        p.queryAnswers(0, "$[*,*,*,*,*,8]", 40);
        p.queryAnswers(0, "$[*,*,*,*,*,*].a", -4);
        p.queryAnswers(0, "$[*,*,*,*,*,*].a.", -2);
        p.queryAnswers(0, "$[*,*,*,*,*].a", 0);
        p.queryAnswers(0, "$[*,*,*,*,*][0]", 0);
        p.put(0, "[" + "0,".repeat(30) + "0]", 0);
        p.queryAnswers(0, "$..*", 31);
        p.queryAnswers(0, "$[*,*]", -4);
        p.queryAnswers(0, "$[*,0:9]", 40);
        p.queryAnswers(0, "$[*,0:10]", -4);
        p.put(0, "[[[[[[[0,1,2,3,4,5]]]]]]]", 0);
        p.queryAnswers(0, "$..[*]", 12);
        p.queryAnswers(0, "$..[*]..*", -4);
        p.put(0, "[[" + "0,".repeat(19) + "0]]", 0);
        p.queryAnswers(0, "$..[*,0:18]", 40);
        p.queryAnswers(0, "$..[*,0:19]", -4);
    }

    private static void answersBefore() {
        Probe p = new Asked("[1]").probe();
        p.query(0, "$[0]", "1");
        p.queryAnswers(1, "$[", -1);
        p.queryAnswers(3, "$", -1);
        p.queryAnswers(-1, "$", -1);
        p.due("results stay", p.shown(), "1");
        p.queryAnswers(0, "$[", -2);
        p.due("results stay", p.shown(), "1");
        p.queryAnswers(0, "", -2);
        p.queryAnswers(0, "$[1]", 0);
        p.due("no results", p.store.results(), 0);
    }
}
