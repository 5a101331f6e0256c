/** What "Terms" says of paths, selectors and slices, at their edges: each label is the sentence that would be broken. */
public final class PathEdgesTest {
    private static final String TEN = "[0,1,2,3,4,5,6,7,8,9]";

    public static void main(String[] args) {
        dollarAndSegments();
        firstCharacterOfAName();
        laterCharactersOfAName();
        whatStandsBehindPeriods();
        selectorsWithCommasBetween();
        stringsInSelectors();
        backslashesInSelectors();
        indexesThatAreRead();
        indexesAtBothEnds();
        slicesThatAreRead();
        slicesOfSmallArrays();
        slicesFarBeyond();
        slicesOfWhatIsNoArray();
        blanks();
        allValues();
        namesInWhatIsNoObject();
        twoPeriods();
        listsOfFortyValues();
        fullListsOnTheWay();
        noPathBeforeFull();
        endsOfPaths();
        Probe.end();
    }

    private static void dollarAndSegments() {
        String label = "a PATH is $ and SEGMENTS";
        for (String document : new String[] {"null", "7", "\"\"", "[]", "{}", "[1,{\"a\":2}]"}) {
            Probe.asked(label, document, "$", document);
        }
        for (char c : Probe.everyCharacter().toCharArray()) {
            if (c != '$') {
                Probe.noPath(label, "[7]", "" + c);
                Probe.noPath(label, "[7]", c + "$");
            }
            Probe.noPath(label, "[7]", "$" + c);
            Probe.noPath(label, "[7]", "$[0]" + c);
        }
        Probe.noPath(label, "[7]", "");
    }

    private static boolean isNameLetter(char c) {
        return c == '_' || "abcdefghijklmnopqrstuvwxyz".indexOf(Character.toLowerCase(c)) >= 0;
    }

    private static void firstCharacterOfAName() {
        String label = "a NAME is letters, digits and _, the first no digit";
        for (char c : Probe.everyCharacter().toCharArray()) {
            if (isNameLetter(c)) {
                Probe.asked(label, "{\"\":1,\"" + c + "\":7}", "$." + c, "7");
                Probe.asked(label, "[{\"" + c + "\":7}]", "$.." + c, "7");
                Probe.asked(label, "[{\"" + c + "\":7}]", "$[?@." + c + "].*", "7");
            } else if (c != '*') {
                Probe.noPath(label, "{\"a\":7}", "$." + c);
                Probe.noPath(label, "{\"a\":7}", "$.." + c);
                Probe.noPath(label, "{\"a\":7}", "$[?@." + c + "]");
            } else {
                Probe.noPath(label, "{\"a\":7}", "$[?@.*]");
            }
        }
    }

    private static void laterCharactersOfAName() {
        String label = "a NAME is letters, digits and _, the first no digit";
        for (char c : Probe.everyCharacter().toCharArray()) {
            if (isNameLetter(c) || c >= '0' && c <= '9') {
                Probe.asked(label, "{\"a\":1,\"a" + c + "\":7}", "$.a" + c, "7");
                Probe.asked(label, "{\"a\":1,\"a" + c + "\":7}", "$..a" + c, "7");
                Probe.asked(label, "[{\"a" + c + "\":7}]", "$[?@.a" + c + "].*", "7");
            } else {
                Probe.noPath(label, "{\"a\":7}", "$.a" + c);
                Probe.noPath(label, "{\"a\":7}", "$..a" + c);
            }
        }
    }

    private static void whatStandsBehindPeriods() {
        String label = "a period and a * or a NAME; or two periods and then what may stand behind one period, or in [ ]";
        String document = "{\"a\":[7]}";
        Probe.asked(label, document, "$.*", "[7]");
        Probe.asked(label, document, "$..*", "[7] | 7");
        Probe.asked(label, document, "$..a", "[7]");
        Probe.asked(label, document, "$..[*]", "[7] | 7");
        Probe.asked(label, document, "$..['a',0]", "[7] | 7");
        Probe.asked(label, document, "$..[-1]", "7");
        Probe.asked(label, document, "$..[:]", "7");
        Probe.asked(label, document, "$..[?@==7]", "7");
        for (String path : new String[] {"$.", "$..", "$...", "$...a", "$....a", "$...*", "$.[0]", "$.['a']", "$...[0]", "$.'a'", "$..'a'",
            "$.0", "$..0", "$..:", "$..?@", "$.a.", "$.a..", "$a", "$*", "$'a'", "$.**", "$.*a", "$.a*", "$..**", "$.$", "$.@"}) {
            Probe.noPath(label, document, path);
        }
    }

    private static void selectorsWithCommasBetween() {
        String label = "[ SELECTORS with commas between ]";
        for (String path : new String[] {"$[]", "$[ ]", "$[,]", "$[0,]", "$[,0]", "$[0,,1]", "$[0 1]", "$[0;1]", "$[0", "$[0,", "$[", "$]",
            "$0]", "$[0]]", "$[[0]]", "$[(0)]", "$[a]", "$[a,0]", "$[$]", "$[@]", "$[**]", "$[*0]", "$[0*]", "$['a''b']", "$['a'0]",
            "$[0'a']", "$..[]", "$[null]", "$[true]", "$[.a]"}) {
            Probe.noPath(label, TEN, path);
        }
        Probe.asked(label, TEN, "$[0]", "0");
        Probe.asked(label, TEN, "$[3,1,3]", "3 | 1 | 3");
        Probe.asked(label, TEN, "$[8:,'a',0,?@==4,*]", "8 | 9 | 0 | 4 | 0 | 1 | 2 | 3 | 4 | 5 | 6 | 7 | 8 | 9");
        Probe.asked(label, "{\"a\":1,\"b\":2}", "$['b','a','b','c',\"a\"]", "2 | 1 | 2 | 1");
    }

    private static void stringsInSelectors() {
        String label = "a string as in JSON, or the same between two '";
        for (char c : Probe.everyCharacter().toCharArray()) {
            String written = c == '"' || c == '\\' ? "\\" + c : "" + c;
            String document = "{\"\":1,\"" + written + "\":7}";
            Probe.asked(label, document, "$[\"" + written + "\"]", "7");
            // Between two ' it is the ' that needs a \ before it, and the " that needs none.
            String single = c == '\'' || c == '\\' ? "\\" + c : "" + c;
            Probe.asked(label, document, "$['" + single + "']", "7");
            Probe.asked(label, "[\"\",\"" + written + "\"]", "$[?@==\"" + written + "\"]", "\"" + written + "\"");
            Probe.asked(label, "[\"\",\"" + written + "\"]", "$[?@=='" + single + "']", "\"" + written + "\"");
            Probe.asked(label, "[" + document + "]", "$[?@['" + single + "']].*", "1 | 7");
        }
        Probe.asked("the empty string is a string", "{\"\":7}", "$['']", "7");
        Probe.asked("the empty string is a string", "{\"\":7}", "$[\"\"]", "7");
        for (String path : new String[] {"$[']", "$[\"]", "$['a]", "$[\"a]", "$['a\"]", "$[\"a']", "$['''", "$[''']", "$[\"\"\"]",
            "$['\\']", "$[\"\\\"]"}) {
            Probe.noPath(label, "{\"a\":7}", path);
        }
    }

    private static void backslashesInSelectors() {
        String label = "where \\' may stand and \\\" may not";
        String document = "{\"'\":1,\"\\\"\":2,\"/\":3,\"\\\\\":4}";
        Probe.asked(label, document, "$['\\'','\"','\\/','\\\\']", "1 | 2 | 3 | 4");
        Probe.asked(label, document, "$[\"'\",\"\\\"\",\"\\/\",\"\\\\\"]", "1 | 2 | 3 | 4");
        Probe.asked(label, document, "$['/',\"/\"]", "3 | 3");
        for (char c : Probe.everyCharacter().toCharArray()) {
            if (c != '\\' && c != '/' && c != '\'') {
                Probe.noPath(label, document, "$['\\" + c + "']");
                Probe.noPath(label, "[1]", "$[?@=='\\" + c + "']");
            }
            if (c != '\\' && c != '/' && c != '"') {
                Probe.noPath(label, document, "$[\"\\" + c + "\"]");
                Probe.noPath(label, "[1]", "$[?@==\"\\" + c + "\"]");
            }
        }
    }

    private static void indexesThatAreRead() {
        String label = "an INDEX is 0, or - perhaps and digits of which the first is not 0, at most 3";
        for (String index : new String[] {"0", "1", "9", "10", "99", "100", "999", "-1", "-9", "-10", "-99", "-100", "-999"}) {
            Probe.asked(label, "[]", "$[" + index + "]", "");
            Probe.asked(label, "[]", "$[" + index + ":]", "");
            Probe.asked(label, "[]", "$[:" + index + "]", "");
            Probe.asked(label, "[]", "$[::" + index + "]", "");
            Probe.asked(label, "[]", "$[?@[" + index + "]]", "");
        }
        for (String index : new String[] {"00", "01", "09", "001", "-0", "-00", "-01", "-", "--1", "+0", "+1", "1000", "9999", "-1000",
            "0100", "4294967296", "1.0", "1e1", "1a", "a", "0x1", "1-", "1-1", "0-1", ".1"}) {
            Probe.noPath(label, "[7]", "$[" + index + "]");
            Probe.noPath(label, "[7]", "$[" + index + ":]");
            Probe.noPath(label, "[7]", "$[:" + index + "]");
            Probe.noPath(label, "[7]", "$[::" + index + "]");
            Probe.noPath(label, "[7]", "$[?@[" + index + "]]");
        }
        Probe.noPath(label, "[[7]]", "$[?@[]]");
    }

    private static void indexesAtBothEnds() {
        String label = "an index chooses the element with that number, counted from the end when it is below 0 (-1 is the last)";
        for (int size = 0; size <= 4; size++) {
            String document = array(size);
            for (int index = -6; index <= 6; index++) {
                int place = index < 0 ? size + index : index;
                boolean there = place >= 0 && place < size;
                Probe.asked(label, document, "$[" + index + "]", there ? "" + place : "");
                Probe.asked(label, "[" + document + "]", "$[?@[" + index + "]]", there ? document : "");
            }
        }
        Probe.asked(label, "[7]", "$[999]", "");
        Probe.asked(label, "[7]", "$[-999]", "");
        Probe.asked(label, "{\"0\":1,\"-1\":2}", "$[0,-1]", "");
        Probe.asked(label, "\"ab\"", "$[0,-1]", "");
        Probe.asked(label, "12", "$[0,-1]", "");
    }

    /** An array of 0, 1, .. */
    private static String array(int size) {
        StringBuilder text = new StringBuilder("[");
        for (int i = 0; i < size; i++) {
            text.append(i == 0 ? "" : ",").append(i);
        }
        return text + "]";
    }

    private static void slicesThatAreRead() {
        String label = "a SLICE is perhaps an index, :, perhaps an index, and perhaps : and then perhaps an index";
        for (String slice : new String[] {":", "::", "0:", ":3", "0:3", "0::", ":3:", "::1", "0:3:", "0::1", ":3:1", "0:3:1"}) {
            Probe.asked(label, "[0,1,2]", "$[" + slice + "]", "0 | 1 | 2");
            Probe.asked(label, "[[0,1,2]]", "$..[" + slice + "]", "[0,1,2] | 0 | 1 | 2");
        }
        for (String slice : new String[] {":::", "0:1:1:", "0:1:1:1", "::::", "a:", ":a", "::a", "*:", ":*", "'a':", ":'a'", ":-", "-:",
            "::-", "0 :1", "0: 1", "0:1 :1", "0:1: 1", ": :", "?@:", "0;1", "0:1,:,", ":,,:"}) {
            Probe.noPath(label, "[0,1,2]", "$[" + slice + "]");
        }
        Probe.noPath(label, "[[0]]", "$[?@[:]]");
        Probe.noPath(label, "[[0]]", "$[?@[0:1]]");
    }

    private static void slicesOfSmallArrays() {
        for (int size = 0; size <= 4; size++) {
            for (int a = -6; a <= 7; a++) {
                for (int b = -6; b <= 7; b++) {
                    for (int c = -3; c <= 4; c++) {
                        // The last number of each stands for one that is left out.
                        slice(size, a == 7 ? null : a, b == 7 ? null : b, c == 4 ? null : c);
                    }
                }
            }
        }
    }

    private static void slice(int size, Integer a, Integer b, Integer c) {
        String path = "$[" + (a == null ? "" : a) + ":" + (b == null ? "" : b) + (c == null ? "" : ":" + c) + "]";
        String label = "a slice a : b : c chooses, c > 0: a, a + c, .. below b; c < 0: a, a + c, .. above b; c 0: none";
        Probe.asked(label, array(size), path, sliced(size, a, b, c == null ? 1 : c));
    }

    /** Looks at each number whether it is one of a, a + c, .. */
    private static String sliced(int size, Integer a, Integer b, int c) {
        StringBuilder due = new StringBuilder();
        if (c == 0) {
            return "";
        }
        int low = c > 0 ? 0 : -1;
        int high = c > 0 ? size : size - 1;
        int from = a == null ? (c > 0 ? 0 : size - 1) : brought(a < 0 ? a + size : a, low, high);
        int to = b == null ? (c > 0 ? size : -1) : brought(b < 0 ? b + size : b, low, high);
        for (int step = 0; step < 10; step++) {
            int number = from + step * c;
            if (c > 0 ? number < to : number > to) {
                due.append(due.length() == 0 ? "" : " | ").append(number);
            }
        }
        return due.toString();
    }

    private static int brought(int number, int low, int high) {
        return number < low ? low : number > high ? high : number;
    }

    private static void slicesFarBeyond() {
        String label = "they are brought into 0 .. length for c > 0, into -1 .. length - 1 for c < 0";
        Probe.asked(label, "[0,1,2]", "$[-999:999]", "0 | 1 | 2");
        Probe.asked(label, "[0,1,2]", "$[999:-999]", "");
        Probe.asked(label, "[0,1,2]", "$[-999:999:2]", "0 | 2");
        Probe.asked(label, "[0,1,2]", "$[999:-999:-1]", "2 | 1 | 0");
        Probe.asked(label, "[0,1,2]", "$[999:-999:-2]", "2 | 0");
        Probe.asked(label, "[0,1,2]", "$[-999:999:-1]", "");
        Probe.asked(label, "[0,1,2]", "$[::999]", "0");
        Probe.asked(label, "[0,1,2]", "$[::-999]", "2");
        Probe.asked(label, "[0,1,2]", "$[999:999:-1]", "");
        Probe.asked(label, "[0,1,2]", "$[-999:-999]", "");
        Probe.asked("left out, -1 is not counted from the end", "[0,1,2]", "$[2::-1]", "2 | 1 | 0");
        Probe.asked("given, -1 is counted from the end", "[0,1,2]", "$[2:-1:-1]", "");
    }

    private static void slicesOfWhatIsNoArray() {
        for (String document : new String[] {"{\"a\":1,\"0\":2}", "\"abc\"", "123", "null", "true", "{}"}) {
            for (String slice : new String[] {":", "0:9", "::-1", "::0", "-9:9:2"}) {
                Probe.asked("a slice chooses elements of an array", document, "$[" + slice + "]", "");
            }
        }
    }

    private static void blanks() {
        String label = "blanks may stand behind [ and commas, before commas and ], before and behind the signs of comparison, nowhere else";
        // A ~ marks where they may stand, a ^ where they may not.
        String marked = "^$^[~'a'~,~1~,~:~,~*~,~-^1^:^2^:^-^3~,~?^@^.^b^[~0~]~=^=~1~,~?^@~<^=~-^2~,~?^@~!^=~t^r^u^e~,~?^@~]^.^a^.^.^b^.^*^.^.^[~\"c\"~]^";
        Probe.asking(label, "{\"a\":1}").queryAnswers(0, unmarked(marked), 0);
        Probe.asking(label, "{\"a\":1}").queryAnswers(0, unmarked(marked.replace('~', ' ')), 0);
        for (int i = 0; i < marked.length(); i++) {
            char mark = marked.charAt(i);
            if (mark == '~' || mark == '^') {
                String path = unmarked(marked.substring(0, i)) + "  " + unmarked(marked.substring(i));
                Probe.asking(label, "{\"a\":1}").queryAnswers(0, path, mark == '~' ? 0 : -2);
            }
        }
        Probe.asked("blanks in strings are characters", "{\" a \":1,\"a\":2}", "$[' a ']", "1");
        Probe.asked("blanks in strings are characters", "[\" a\",\"a\"]", "$[?@ == ' a']", "\" a\"");
    }

    private static String unmarked(String text) {
        return text.replace("~", "").replace("^", "");
    }

    private static void allValues() {
        String label = "* chooses all values directly in an array or object";
        Probe.asked(label, "[1,[2,[3]],{\"a\":4}]", "$.*", "1 | [2,[3]] | {\"a\":4}");
        Probe.asked(label, "{\"a\":1,\"b\":[2]}", "$[*]", "1 | [2]");
        for (String document : new String[] {"[]", "{}", "null", "7", "\"ab\"", "true"}) {
            Probe.asked(label, document, "$.*", "");
            Probe.asked(label, document, "$[*,*]", "");
            Probe.asked(label, document, "$[?@]", "");
        }
    }

    private static void namesInWhatIsNoObject() {
        String label = "a name (or a string) chooses the value of that member of an object";
        Probe.asked(label, "{\"a\":{\"a\":1}}", "$.a", "{\"a\":1}");
        Probe.asked(label, "{\"a\":{\"a\":1}}", "$.a.a", "1");
        Probe.asked(label, "{\"a\":{\"a\":1}}", "$.a.a.a", "");
        Probe.asked(label, "{\"a\":null}", "$.a", "null");
        for (String document : new String[] {"[1]", "\"a\"", "1", "null", "{}", "{\"A\":1}", "{\"aa\":1}", "{\"b\":\"a\"}"}) {
            Probe.asked(label, document, "$.a", "");
            Probe.asked(label, document, "$['a']", "");
            Probe.asked(label, document, "$[\"0\"]", "");
            Probe.asked(label, document, "$['']", "");
        }
    }

    private static void twoPeriods() {
        String label = "with two periods the same is done for the value itself and then for all in it, each before those in it and these in order";
        String document = "{\"b\":{\"a\":1,\"b\":[{\"a\":2}]},\"a\":{\"a\":3},\"c\":[[{\"a\":4}],{\"a\":5}]}";
        Probe.asked(label, document, "$..a", "{\"a\":3} | 1 | 2 | 3 | 4 | 5");
        Probe.asked(label, "[[1,[2]],[3]]", "$..*", "[1,[2]] | [3] | 1 | [2] | 2 | 3");
        Probe.asked(label, "[[1,[2]],[3]]", "$..[0]", "[1,[2]] | 1 | 2 | 3");
        Probe.asked(label, "[[1,[2]],[3]]", "$..[-1,0]", "[3] | [1,[2]] | [2] | 1 | 2 | 2 | 3 | 3");
        Probe.asked(label, "[[1,[2]],[3]]", "$..[1:,:1]", "[3] | [1,[2]] | [2] | 1 | 2 | 3");
        Probe.asked(label, "[[1,[2]],[3]]", "$[1,0]..[0]", "3 | 1 | 2");
        Probe.asked(label, "[[1,[2]],[3]]", "$..[0]..[0]", "1 | 2");
        Probe.asked(label, "[[[1]]]", "$..[0]..*", "[1] | 1 | 1");
        Probe.asked(label, "7", "$..*", "");
        Probe.asked(label, "7", "$..a", "");
        Probe.asked(label, "[]", "$..[0]", "");
        Probe.asked(label, "[[[[[[[[7]]]]]]]]", "$..[?@==7]", "7");
        Probe.asked(label, "[[[[[[[[7]]]]]]]]", "$..[0][0][0][0][0][0][0][0]", "7");
    }

    private static void listsOfFortyValues() {
        String label = "a list that would have more than 40 values is FULL";
        String[] forty = {"$[*,*,*,*]", "$[*,*,*,:]", "$[:,:,:,:]", "$[::-1,::-1,::-1,::-1]", "$[?@,?@,?@,?@]", "$[?@>=0,?@!='a',*,?@<10]",
            "$..[*,*,*,*]", "$[*,*,*,0,1,2,3,4,5,6,7,8,9]", "$[*,*,*,-10:]", "$[*,*,*,:9,9]"};
        for (String path : forty) {
            Probe p = Probe.asking(label, TEN);
            p.queryAnswers(0, path, 40);
            p.due("results", p.store.results(), 40);
            p.due("the last one", p.store.shown(39, 0) > 0, true);
            p.due("no more", p.store.shown(40, 0), -1);
            for (String more : new String[] {"0", "*", ":", "-1", "?@==9", "9:", "0,0", "::-1"}) {
                Probe q = Probe.asking(label, TEN);
                q.query(0, "$[3,4]", "3 | 4");
                q.queryAnswers(0, path.substring(0, path.length() - 1) + "," + more + "]", -4);
                q.due("results stay", q.shown(), "3 | 4");
            }
            for (String none : new String[] {"10", "'a'", "10:", "?@==10", "-11", "::0"}) {
                Probe.asking(label, TEN).queryAnswers(0, path.substring(0, path.length() - 1) + "," + none + "]", 40);
            }
        }
        Probe.asking(label, "{\"a\":1}").queryAnswers(0, "$[" + "'a',".repeat(38) + "*]", 39);
        Probe.asking(label, "[1]").queryAnswers(0, "$[" + "0,".repeat(39) + "0]", 40);
        Probe.asking(label, "[1]").queryAnswers(0, "$[" + "0,".repeat(40) + "0]", -4);
        Probe.asking(label, "[1]").queryAnswers(0, "$[" + "0,".repeat(40) + "1]", 40);
    }

    private static void fullListsOnTheWay() {
        String label = "a list that would have more than 40 values is FULL, the lists on the way too";
        Probe.asking(label, TEN).queryAnswers(0, "$[*,*,*,*].a", 0);
        Probe.asking(label, TEN).queryAnswers(0, "$[*,*,*,*,0].a", -4);
        Probe.asking(label, TEN).queryAnswers(0, "$[*,*,*,*,0][9].b", -4);
        Probe.asking(label, "[[0,1,2,3],[0,1,2,3]]").queryAnswers(0, "$[*,*,*,*,*][*]", 40);
        Probe.asking(label, "[[0,1,2,3],[0,1,2,3]]").queryAnswers(0, "$[*,*,*,*,*,0][*]", -4);
        Probe.asking(label, "[[0,1,2,3],[0,1,2,3]]").queryAnswers(0, "$[*,*,*,*,*,0][0]", 11);
        Probe.asking(label, "[[0,1,2,3],[0,1,2,3]]").queryAnswers(0, "$..[*,*,*,*]", 40);
        Probe.asking(label, "[[0,1,2,3],[0,1,2,3]]").queryAnswers(0, "$..[*,*,*,*,1]", -4);
        Probe.asking(label, "[[0,1,2,3],[0,1,2,3],4]").queryAnswers(0, "$..[*,*,*,*]", -4);
        Probe.asking(label, "[[[[[[[[0]]]]]]]]").queryAnswers(0, "$..*..*", 28);
        Probe.asking(label, "[[[[[[[[0]]]]]]]]").queryAnswers(0, "$..*..*..*", -4);
        Probe.asking(label, "[[[[[[[[0]]]]]]]]").queryAnswers(0, "$..*..*..*..*..*..*..*..*..*..*", -4);
    }

    private static void noPathBeforeFull() {
        Probe p = Probe.asking("-2 when it is no path; -4 when a list is FULL; -1, before both", TEN);
        p.query(0, "$[7]", "7");
        p.queryAnswers(0, "$[*,*,*,*,*]", -4);
        p.queryAnswers(0, "$[*,*,*,*,*].", -2);
        p.queryAnswers(0, "$[*,*,*,*,*]x", -2);
        p.queryAnswers(1, "$[*,*,*,*,*]", -1);
        p.queryAnswers(1, "$[*,*,*,*,*].", -1);
        p.queryAnswers(3, "$.", -1);
        p.due("results stay", p.shown(), "7");
    }

    private static void endsOfPaths() {
        String label = "a draft that ends before the path does is no path";
        String path = "$.ab['c\\'',-12:3:-4,?@.d[\"e\"] >= -56,?@==null]..f[*]";
        for (int end = 0; end <= path.length(); end++) {
            String beginning = path.substring(0, end);
            boolean whole = beginning.equals("$") || beginning.equals("$.a") || beginning.equals("$.ab") || beginning.endsWith("null]")
                || beginning.endsWith("..f") || end == path.length();
            Probe.asking(label, "[7]").queryAnswers(0, beginning, !whole ? -2 : end == 1 ? 1 : 0);
        }
        // Those that end where the room of the draft ends.
        Probe.asking(label, "[7]").queryAnswers(0, "$." + "a".repeat(158), 0);
        Probe.asking(label, "[7]").queryAnswers(0, "$" + ".a".repeat(79) + ".", -2);
        Probe.asking(label, "[7]").queryAnswers(0, "$" + "[0]".repeat(53), 0);
        Probe.asking(label, "[7]").queryAnswers(0, "$[" + "0,".repeat(39) + " ".repeat(78) + "1]", 39);
        Probe.asking(label, "[7]").queryAnswers(0, "$['" + "a".repeat(157), -2);
    }
}
