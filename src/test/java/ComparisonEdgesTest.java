/** What "Terms" says of the tests in paths, at their edges: each label is the sentence that would be broken. */
public final class ComparisonEdgesTest {
    /** Values of every kind; in each kind they are in rising order, but for the words, which have none. */
    private static final String[] VALUES = {"null", "true", "false", "-9223372036854775808", "-10", "-9", "-1", "0", "1", "9", "10",
        "9223372036854775807", "\"\"", "\" \"", "\"0\"", "\"10\"", "\"9\"", "\"A\"", "\"Z\"", "\"a\"", "\"aA\"", "\"aa\"", "\"ab\"",
        "\"b\"", "\"~\"", "[]", "{}", "[1]", "{\"a\":1}"};
    private static final int FIRST_NUMBER = 3;
    private static final int FIRST_STRING = 12;
    private static final int FIRST_BRACKET = 25;
    private static final String[] SIGNS = {"==", "!=", "<", "<=", ">", ">="};

    public static void main(String[] args) {
        eachSignWithEachPair();
        strings();
        literals();
        whatIsNoLiteral();
        signs();
        withoutComparison();
        accessesThatLeadToNothing();
        accessesThatAreNone();
        ofValuesDirectlyIn();
        Probe.end();
    }

    /** The answer that is due by the order of the values above. */
    private static boolean holds(int value, int sign, int literal) {
        boolean same = value == literal;
        boolean comparable = isNumber(value) && isNumber(literal) || isString(value) && isString(literal);
        boolean less = comparable && value < literal;
        boolean greater = comparable && value > literal;
        return sign == 0 ? same : sign == 1 ? !same : sign == 2 ? less : sign == 3 ? less || same : sign == 4 ? greater : greater || same;
    }

    private static boolean isNumber(int value) {
        return value >= FIRST_NUMBER && value < FIRST_STRING;
    }

    private static boolean isString(int value) {
        return value >= FIRST_STRING && value < FIRST_BRACKET;
    }

    private static void eachSignWithEachPair() {
        for (int literal = 0; literal < FIRST_BRACKET; literal++) {
            for (int sign = 0; sign < SIGNS.length; sign++) {
                for (int value = 0; value < VALUES.length; value++) {
                    Probe p = Probe.asking("each sign, with values of one kind and of two", "[" + VALUES[value] + "]");
                    p.queryAnswers(0, "$[?@" + SIGNS[sign] + VALUES[literal] + "]", holds(value, sign, literal) ? 1 : 0);
                }
            }
        }
    }

    private static void strings() {
        String label = "strings: by the first character that differs, or the shorter one, when it is the beginning of the other";
        String document = "[\"\",\"a\",\"ab\",\"abc\",\"b\",\"B\",\"ac\"]";
        Probe.asked(label, document, "$[?@<'ab']", "\"\" | \"a\" | \"B\"");
        Probe.asked(label, document, "$[?@<='ab']", "\"\" | \"a\" | \"ab\" | \"B\"");
        Probe.asked(label, document, "$[?@>'ab']", "\"abc\" | \"b\" | \"ac\"");
        Probe.asked(label, document, "$[?@>=\"ab\"]", "\"ab\" | \"abc\" | \"b\" | \"ac\"");
        Probe.asked(label, document, "$[?@<'']", "");
        Probe.asked(label, document, "$[?@<='']", "\"\"");
        Probe.asked(label, document, "$[?@>='']", "\"\" | \"a\" | \"ab\" | \"abc\" | \"b\" | \"B\" | \"ac\"");
        // What is compared are the characters that are meant, not those that are written.
        Probe.asked(label, "[\"\\\"\",\"\\\\\",\"/\"]", "$[?@<'\\\\']", "\"\\\"\" | \"/\"");
        Probe.asked(label, "[\"\\\"\",\"\\\\\",\"/\"]", "$[?@=='\\/']", "\"/\"");
        Probe.asked(label, "[\"\\\"\",\"\\\\\",\"/\"]", "$[?@<='\"']", "\"\\\"\"");
    }

    private static void literals() {
        String label = "a LITERAL is null, true, false, a number, or a string (as in selectors)";
        for (String literal : new String[] {"null", "true", "false", "0", "-7", "1000", "12345678901", "9223372036854775807",
            "-9223372036854775808", "\"\"", "\"a b\""}) {
            Probe.asked(label, "[" + literal + "]", "$[?@==" + literal + "]", literal);
            Probe.asked(label, "[[" + literal + "]]", "$[?@[0]==" + literal + "]", "[" + literal + "]");
        }
        Probe.asked(label, "[0,-1]", "$[?@==-0]", "0");
        Probe.asked(label, "[\"a'b\\\"\"]", "$[?@=='a\\'b\"']", "\"a'b\\\"\"");
        Probe.asked(label, "[\"a'b\\\"\"]", "$[?@==\"a'b\\\"\"]", "\"a'b\\\"\"");
        Probe.asked(label, "[\"\"]", "$[?@=='']", "\"\"");
    }

    private static void whatIsNoLiteral() {
        for (String wrong : new String[] {"", " ", "nul", "nulll", "Null", "TRUE", "tru", "truefalse", "fals", "n", "t", "f", "none", "00",
            "01", "-", "--1", "+1", "- 1", "-01", "-00", "1.0", "1e1", "9223372036854775808", "-9223372036854775809",
            "18446744073709551617", "99999999999999999999", "[]", "{}", "[1]", "@", "@.a", "$", "$.a", "a", "*", "?@", "'a", "a'", "'a\"",
            "\"a'", "'a'b", "1 2", "1 'a'", "1=1", "1==1", ":", "1:", "(1)", "'\\\"'", "\"\\'\"", "'\\n'", "1&&@", "1||@"}) {
            for (String sign : SIGNS) {
                Probe.noPath("no LITERAL", "[1]", "$[?@" + sign + wrong + "]");
            }
        }
    }

    private static void signs() {
        String label = "one of == != < <= > >=";
        for (String sign : SIGNS) {
            for (String blanks : new String[] {"", " ", "   "}) {
                int due = sign.indexOf('=') >= 0 && !sign.equals("!=") ? 1 : 0;
                Probe.asking(label, "[7]").queryAnswers(0, "$[?@" + blanks + sign + blanks + "7]", due);
            }
        }
        for (String wrong : new String[] {"=", "!", "===", "!==", "=!", "=<", "=>", "<<", ">>", "<>", "><", "<==", ">==", "= =", "! =",
            "< =", "> =", "~", "=~", "&", "-", "+", ":", "."}) {
            Probe.noPath(label, "[7]", "$[?@" + wrong + "7]");
            Probe.noPath(label, "[7]", "$[?@" + wrong + "]");
        }
    }

    private static void withoutComparison() {
        String label = "a test holds, without comparison, when its accesses lead to something (each chooses something)";
        for (String value : new String[] {"null", "false", "0", "\"\"", "[]", "{}"}) {
            Probe.asked(label, "[" + value + "]", "$[?@]", value);
            Probe.asked(label, "{\"x\":{\"a\":" + value + "}}", "$[?@.a]", "{\"a\":" + value + "}");
            Probe.asked(label, "[[" + value + "]]", "$[?@[0]]", "[" + value + "]");
            Probe.asked(label, "[[" + value + "]]", "$[?@[-1]]", "[" + value + "]");
            Probe.asked(label, "[[" + value + "]]", "$[?@[1]]", "");
            Probe.asked(label, "[[" + value + "]]", "$[?@[-2]]", "");
            Probe.asked(label, "[[" + value + "]]", "$[?@.a]", "");
            Probe.asked(label, "[{\"a\":" + value + "}]", "$[?@[0]]", "");
            Probe.asked(label, "[{\"a\":" + value + "}]", "$[?@.a.a]", "");
            Probe.asked(label, "[{\"a\":" + value + "}]", "$[?@.a[0]]", "");
        }
        Probe.asked(label, "[{\"a\":[1,{\"b\":2}]}]", "$[?@.a[-1].b]", "{\"a\":[1,{\"b\":2}]}");
        Probe.asked(label, "[{\"a\":[1,{\"b\":2}]}]", "$[?@['a'][1][\"b\"]]", "{\"a\":[1,{\"b\":2}]}");
        Probe.asked(label, "[{\"a\":[1,{\"b\":2}]}]", "$[?@.a[0].b]", "");
        Probe.asked(label, "[{\"\":1}]", "$[?@['']]", "{\"\":1}");
        Probe.asked(label, "[{\"0\":1}]", "$[?@['0']]", "{\"0\":1}");
    }

    private static void accessesThatLeadToNothing() {
        String document = "[7,[],{\"a\":1},{\"a\":2}]";
        Probe.asked("with ==, when that is equal to the literal", document, "$[?@.a==1]", "{\"a\":1}");
        Probe.asked("!=, when it does not with ==", document, "$[?@.a!=1]", "7 | [] | {\"a\":2}");
        Probe.asked("!=, when it does not with ==", document, "$[?@.b!=null]", "7 | [] | {\"a\":1} | {\"a\":2}");
        Probe.asked("with ==, when that is equal to the literal", document, "$[?@.b==null]", "");
        for (String sign : new String[] {"<", "<=", ">", ">="}) {
            for (String literal : new String[] {"null", "0", "''", "false"}) {
                Probe.asked("< and > hold when both are numbers or both are strings", document, "$[?@.b" + sign + literal + "]", "");
                Probe.asked("< and > hold when both are numbers or both are strings", document, "$[?@[0]" + sign + literal + "]", "");
            }
        }
        Probe.asked("<= is < or ==", "[null,true,false]", "$[?@<=true]", "true");
        Probe.asked(">= is > or ==", "[null,true,false]", "$[?@>=null]", "null");
        Probe.asked("< when both are numbers", "[null,true,false]", "$[?@<true,?@>false]", "");
    }

    private static void accessesThatAreNone() {
        for (String wrong : new String[] {"", "1", "a", ".a", "$", "$.a", "@@", "@a", "@.", "@..a", "@.*", "@.1", "@.a.", "@[*]", "@[]",
            "@[", "@[0", "@[0,1]", "@['a','b']", "@[:]", "@[0:1]", "@[?@]", "@[a]", "@[01]", "@[-0]", "@[1000]", "@['a]", "@'a'", "@(0)",
            "@.a b", "!@", "(@)", "@.a@", "@]0[", "@[[0]]", "@['a'][", "@.a[0]b", "@.-", "@[\"\\'\"]"}) {
            Probe.noPath("a TEST is @ and perhaps ACCESSES (. NAME, or [ a string or an index ])", "[[7]]", "$[?" + wrong + "]");
            Probe.noPath("a TEST is @ and perhaps ACCESSES (. NAME, or [ a string or an index ])", "[[7]]", "$[?" + wrong + "==7]");
        }
    }

    private static void ofValuesDirectlyIn() {
        String label = "a test chooses those of all values directly in an array or object for which it holds";
        Probe.asked(label, "{\"x\":1,\"y\":[1],\"z\":1}", "$[?@==1]", "1 | 1");
        Probe.asked(label, "[3,1,[2],2]", "$[?@>1]", "3 | 2");
        Probe.asked(label, "[3,1,[2],2]", "$..[?@>1]", "3 | 2 | 2");
        for (String document : new String[] {"7", "\"7\"", "null", "[]", "{}"}) {
            Probe.asked(label, document, "$[?@]", "");
            Probe.asked(label, document, "$[?@!=0]", "");
        }
    }
}
