/** Texts of patches: each maker but all gives a patch of one operation. */
final class Op {
    static String add(String path, String value) {
        return one("add", path, ",\"value\":" + value);
    }

    static String remove(String path) {
        return one("remove", path, "");
    }

    static String replace(String path, String value) {
        return one("replace", path, ",\"value\":" + value);
    }

    static String move(String from, String path) {
        return one("move", path, ",\"from\":\"" + from + "\"");
    }

    static String copy(String from, String path) {
        return one("copy", path, ",\"from\":\"" + from + "\"");
    }

    static String test(String path, String value) {
        return one("test", path, ",\"value\":" + value);
    }

    static String one(String op, String path, String rest) {
        return "[{\"op\":\"" + op + "\",\"path\":\"" + path + "\"" + rest + "}]";
    }

    /** One patch with the operations of all of these. */
    static String all(String... patches) {
        StringBuilder text = new StringBuilder();
        for (String patch : patches) {
            text.append(text.length() == 0 ? "" : ",").append(patch, 1, patch.length() - 1);
        }
        return "[" + text + "]";
    }
}
