import java.util.ArrayList;

/**
 * A store of three documents in JSON: texts are read into it, changed by patches that are done
 * wholly or not at all, asked by paths, and shown again; what was committed is there after a crash.
 */
public final class PatchStore {
    private static final int DOCUMENTS = 3;
    private static final int DRAFT_ROOM = 160;
    private static final int LIST_ROOM = 40;
    private static final int FIRST_CODE = 32;
    private static final int LAST_CODE = 126;
    private static final long LEAST_NUMBER = 1L << 63;

    private static final int NONE = -1;
    private static final int DONE = 0;
    private static final int SYNTAX = 1;
    private static final int DEEP = 2;
    private static final int TWICE = 3;
    private static final int FULL = 4;
    private static final int UNFIT = 5;
    private static final int LOST = 6;
    private static final int UNLIKE = 7;
    private static final int NO_PATH = -2;
    private static final int LIST_FULL = -4;

    private final int limit;
    private final int room;
    private final char[] draftLetters = new char[DRAFT_ROOM];
    private int draftLength = 0;
    /** Strings are put together here, one at a time, so that no call makes a builder of its own. */
    private final StringBuilder builder = new StringBuilder();
    private final Value[] documents = new Value[DOCUMENTS];
    private final Value[] committed = new Value[DOCUMENTS];
    private ArrayList<Value> found = new ArrayList<>();

    public PatchStore(int limit, int room) {
        this.limit = 1 + (limit & 7);
        this.room = 1 + (room & 31);
    }

    public boolean write(long w) {
        int length = draftLength;
        for (int shift = 56; shift >= 0; shift -= 8) {
            int code = (int) (w >>> shift) & 255;
            if (code == 0) {
                continue;
            }
            if (code < FIRST_CODE || code > LAST_CODE || length >= DRAFT_ROOM) {
                return false;
            }
            // What lies behind draftLength means nothing, so a refused write leaves no trace.
            draftLetters[length] = (char) code;
            length++;
        }
        draftLength = length;
        return true;
    }

    public int put(int d) {
        Cursor text = takeDraft();
        if (d < 0 || d >= DOCUMENTS) {
            return NONE;
        }
        JsonReader reader = new JsonReader(text, limit);
        Value value = reader.whole();
        if (value == null) {
            return reader.fault;
        }
        if (value.count > room) {
            return FULL;
        }
        documents[d] = value;
        return DONE;
    }

    public int patch(int d) {
        Cursor text = takeDraft();
        Value document = documentAt(d);
        if (document == null) {
            return NONE;
        }
        // A value of a patch stands in an object in an array, two brackets deeper than in a document.
        JsonReader reader = new JsonReader(text, limit + 2);
        Value value = reader.whole();
        if (value == null) {
            return reader.fault;
        }
        ArrayList<Operation> operations = Operation.allOf(value, builder);
        if (operations == null) {
            return UNFIT;
        }
        Patcher patcher = new Patcher(document, limit, room);
        int outcome = patcher.perform(operations);
        if (outcome == DONE) {
            documents[d] = patcher.document;
        }
        return outcome;
    }

    public boolean delete(int d) {
        if (documentAt(d) == null) {
            return false;
        }
        documents[d] = null;
        return true;
    }

    public int query(int d) {
        Cursor text = takeDraft();
        Value document = documentAt(d);
        if (document == null) {
            return NONE;
        }
        ArrayList<Segment> segments = new PathReader(text).whole();
        if (segments == null) {
            return NO_PATH;
        }
        ArrayList<Value> list = new ArrayList<>();
        list.add(document);
        for (int i = 0; i < segments.size(); i++) {
            list = segments.get(i).nextList(list);
            if (list == null) {
                return LIST_FULL;
            }
        }
        found = list;
        return list.size();
    }

    public int length(int d) {
        Value document = documentAt(d);
        if (document == null) {
            return NONE;
        }
        Scribe scribe = new Scribe(NONE);
        scribe.spell(document);
        return scribe.spelled;
    }

    public int letter(int d, int i) {
        return letterOf(documentAt(d), i);
    }

    public int results() {
        return found.size();
    }

    public int shown(int k, int i) {
        if (k < 0 || k >= found.size()) {
            return NONE;
        }
        return letterOf(found.get(k), i);
    }

    public int draft() {
        return draftLength;
    }

    public int depth(int d) {
        Value document = documentAt(d);
        return document == null ? NONE : document.depth;
    }

    public int count(int d) {
        Value document = documentAt(d);
        return document == null ? 0 : document.count;
    }

    public void commit() {
        for (int d = 0; d < DOCUMENTS; d++) {
            committed[d] = documents[d];
        }
    }

    public void crash() {
        for (int d = 0; d < DOCUMENTS; d++) {
            documents[d] = committed[d];
        }
        draftLength = 0;
        found = new ArrayList<>();
    }

    private Value documentAt(int d) {
        return d >= 0 && d < DOCUMENTS ? documents[d] : null;
    }

    /** The cursor reads the letters in place: nothing is written before the call that took them ends. */
    private Cursor takeDraft() {
        Cursor text = new Cursor(draftLetters, draftLength, builder);
        draftLength = 0;
        return text;
    }

    private static int letterOf(Value value, int i) {
        if (value == null || i < 0) {
            return NONE;
        }
        Scribe scribe = new Scribe(i);
        scribe.spell(value);
        return scribe.letter;
    }

    private static boolean isLetter(char c) {
        return c >= 'a' && c <= 'z' || c >= 'A' && c <= 'Z' || c == '_';
    }

    private static boolean isDigit(char c) {
        return c >= '0' && c <= '9';
    }

    /**
     * A value of JSON. It never changes once it is made, so documents, committed documents and
     * results may share values; a changed document is made anew along the way to the change.
     */
    private static final class Value {
        static final int WORD = 0;
        static final int NUMBER = 1;
        static final int STRING = 2;
        static final int ARRAY = 3;
        static final int OBJECT = 4;

        final int kind;
        /** The characters of a string; the text of a word or a number. */
        final String text;
        final long number;
        /** The name that it has as a member of an object; elsewhere it means nothing. */
        final String name;
        final ArrayList<Value> parts;
        final int depth;
        final int count;

        Value(int kind, String text, long number) {
            this.kind = kind;
            this.text = text;
            this.number = number;
            this.name = "";
            this.parts = new ArrayList<>();
            this.depth = 0;
            this.count = 1;
        }

        Value(int kind, ArrayList<Value> parts, String name) {
            this.kind = kind;
            this.text = "";
            this.number = 0;
            this.name = name;
            this.parts = parts;
            int deepest = 0;
            int sum = 1;
            for (int i = 0; i < parts.size(); i++) {
                deepest = Math.max(deepest, parts.get(i).depth);
                sum += parts.get(i).count;
            }
            this.depth = deepest + 1;
            this.count = sum;
        }

        private Value(Value other, String name) {
            this.kind = other.kind;
            this.text = other.text;
            this.number = other.number;
            this.name = name;
            this.parts = other.parts;
            this.depth = other.depth;
            this.count = other.count;
        }

        Value named(String newName) {
            return new Value(this, newName);
        }

        int placeOfMember(String wanted) {
            if (kind != OBJECT) {
                return NONE;
            }
            for (int i = 0; i < parts.size(); i++) {
                if (parts.get(i).name.equals(wanted)) {
                    return i;
                }
            }
            return NONE;
        }

        int placeOfElement(int wanted) {
            return kind == ARRAY && wanted >= 0 && wanted < parts.size() ? wanted : NONE;
        }

        /** null when there is none. */
        Value member(String wanted) {
            int place = placeOfMember(wanted);
            return place < 0 ? null : parts.get(place);
        }

        /** An array or object like this one, where so many parts at the place gave way to the new one, if any. */
        Value spliced(int place, int out, Value in) {
            ArrayList<Value> changed = new ArrayList<>();
            for (int i = 0; i < place; i++) {
                changed.add(parts.get(i));
            }
            if (in != null) {
                changed.add(in);
            }
            for (int i = place + out; i < parts.size(); i++) {
                changed.add(parts.get(i));
            }
            return new Value(kind, changed, name);
        }

        private static boolean same(Value a, Value b) {
            if (a.kind != b.kind || !a.text.equals(b.text) || a.parts.size() != b.parts.size()) {
                return false;
            }
            for (int i = 0; i < a.parts.size(); i++) {
                Value part = a.parts.get(i);
                int place = a.kind == OBJECT ? b.placeOfMember(part.name) : i;
                if (place < 0 || !same(part, b.parts.get(place))) {
                    return false;
                }
            }
            return true;
        }

        static boolean less(Value a, Value b) {
            if (a.kind == NUMBER && b.kind == NUMBER) {
                return a.number < b.number;
            }
            return a.kind == STRING && b.kind == STRING && textLess(a.text, b.text);
        }

        private static boolean textLess(String a, String b) {
            int shorter = Math.min(a.length(), b.length());
            for (int i = 0; i < shorter; i++) {
                if (a.charAt(i) != b.charAt(i)) {
                    return a.charAt(i) < b.charAt(i);
                }
            }
            return a.length() < b.length();
        }
    }

    /** Goes through the text of a value letter by letter, counts them and keeps the wanted one. */
    private static final class Scribe {
        private final int wanted;
        private int spelled = 0;
        private int letter = NONE;

        Scribe(int wanted) {
            this.wanted = wanted;
        }

        private void spell(Value value) {
            if (value.kind == Value.STRING) {
                spellString(value.text);
            } else if (value.kind == Value.ARRAY) {
                spellParts(value, '[', ']');
            } else if (value.kind == Value.OBJECT) {
                spellParts(value, '{', '}');
            } else {
                for (int i = 0; i < value.text.length(); i++) {
                    next(value.text.charAt(i));
                }
            }
        }

        private void spellParts(Value value, char opening, char closing) {
            next(opening);
            for (int i = 0; i < value.parts.size(); i++) {
                Value part = value.parts.get(i);
                if (i > 0) {
                    next(',');
                }
                if (value.kind == Value.OBJECT) {
                    spellString(part.name);
                    next(':');
                }
                spell(part);
            }
            next(closing);
        }

        private void spellString(String text) {
            next('"');
            for (int i = 0; i < text.length(); i++) {
                char c = text.charAt(i);
                if (c == '"' || c == '\\') {
                    next('\\');
                }
                next(c);
            }
            next('"');
        }

        private void next(char c) {
            if (spelled == wanted) {
                letter = c;
            }
            spelled++;
        }
    }

    /** A place in the draft, and the reading of what JSON and paths have in common. */
    private static final class Cursor {
        /** No character of a draft has this code. */
        static final char END = 0;

        private final char[] letters;
        private final int end;
        private int at = 0;
        private final StringBuilder builder;

        Cursor(char[] letters, int end, StringBuilder builder) {
            this.letters = letters;
            this.end = end;
            this.builder = builder;
        }

        char ahead() {
            return at < end ? letters[at] : END;
        }

        boolean took(char c) {
            if (at >= end || letters[at] != c) {
                return false;
            }
            at++;
            return true;
        }

        void skipBlanks() {
            while (at < end && letters[at] == ' ') {
                at++;
            }
        }

        /** A string between two of the mark that is ahead; null when it is none. */
        String quoted() {
            char mark = ahead();
            at++;
            builder.setLength(0);
            while (at < end) {
                char c = letters[at];
                at++;
                if (c == mark) {
                    return builder.toString();
                }
                if (c == '\\') {
                    c = ahead();
                    if (c != mark && c != '\\' && c != '/') {
                        return null;
                    }
                    at++;
                }
                builder.append(c);
            }
            return null;
        }

        /** A NAME of a path; null when there is none. */
        String name() {
            builder.setLength(0);
            while (at < end && (isLetter(letters[at]) || isDigit(letters[at]) && builder.length() > 0)) {
                builder.append(letters[at]);
                at++;
            }
            return builder.length() == 0 ? null : builder.toString();
        }

        /** null, true or false; null when there is none. */
        Value word() {
            String word = ahead() == 'n' ? "null" : ahead() == 't' ? "true" : "false";
            for (int i = 0; i < word.length(); i++) {
                if (!took(word.charAt(i))) {
                    return null;
                }
            }
            return new Value(Value.WORD, word, 0);
        }

        boolean isAtNumber() {
            return at < end && (letters[at] == '-' || isDigit(letters[at]));
        }

        boolean isAtString() {
            return at < end && (letters[at] == '"' || letters[at] == '\'');
        }

        /** null when there is none, or it is too great. */
        Value number() {
            boolean minus = took('-');
            if (took('0')) {
                return new Value(Value.NUMBER, "0", 0);
            }
            builder.setLength(0);
            if (minus) {
                builder.append('-');
            }
            // The sum is kept below 0, where one more number fits than above it.
            long sum = 0;
            int digits = 0;
            while (at < end && isDigit(letters[at])) {
                int digit = letters[at] - '0';
                if (sum < LEAST_NUMBER / 10 || sum * 10 < LEAST_NUMBER + digit) {
                    return null;
                }
                sum = sum * 10 - digit;
                builder.append(letters[at]);
                digits++;
                at++;
            }
            if (digits == 0 || !minus && sum == LEAST_NUMBER) {
                return null;
            }
            return new Value(Value.NUMBER, builder.toString(), minus ? sum : -sum);
        }
    }

    /** Reads a value of JSON; every method answers null where the reading stops. */
    private static final class JsonReader {
        private final Cursor cursor;
        private final int limit;
        /** Why the reading stopped: SYNTAX, unless it was said otherwise where it stopped. */
        private int fault = SYNTAX;

        JsonReader(Cursor cursor, int limit) {
            this.cursor = cursor;
            this.limit = limit;
        }

        Value whole() {
            cursor.skipBlanks();
            Value value = value(0);
            cursor.skipBlanks();
            return cursor.ahead() == Cursor.END ? value : null;
        }

        private Value value(int open) {
            char c = cursor.ahead();
            if (c == '"') {
                String text = cursor.quoted();
                return text == null ? null : new Value(Value.STRING, text, 0);
            }
            if (c != '[' && c != '{') {
                return cursor.isAtNumber() ? cursor.number() : cursor.word();
            }
            if (open >= limit) {
                fault = DEEP;
                return null;
            }
            cursor.took(c);
            cursor.skipBlanks();
            return c == '[' ? branch(Value.ARRAY, ']', open + 1) : branch(Value.OBJECT, '}', open + 1);
        }

        /** An array or object behind its opening bracket. */
        private Value branch(int kind, char closing, int open) {
            ArrayList<Value> parts = new ArrayList<>();
            if (cursor.took(closing)) {
                return new Value(kind, parts, "");
            }
            for (int i = 0; i < DRAFT_ROOM; i++) {
                cursor.skipBlanks();
                Value part = kind == Value.OBJECT ? member(parts, open) : value(open);
                if (part == null) {
                    return null;
                }
                parts.add(part);
                cursor.skipBlanks();
                if (cursor.took(closing)) {
                    return new Value(kind, parts, "");
                }
                if (!cursor.took(',')) {
                    return null;
                }
            }
            return null;
        }

        private Value member(ArrayList<Value> before, int open) {
            String name = cursor.ahead() == '"' ? cursor.quoted() : null;
            if (name == null) {
                return null;
            }
            for (int i = 0; i < before.size(); i++) {
                if (before.get(i).name.equals(name)) {
                    fault = TWICE;
                    return null;
                }
            }
            cursor.skipBlanks();
            if (!cursor.took(':')) {
                return null;
            }
            cursor.skipBlanks();
            Value value = value(open);
            return value == null ? null : value.named(name);
        }
    }

    /** A pointer: nothing, or a first step and the pointer behind it. */
    private static final class Pointer {
        final String step;
        /** The number of an element that the step is; NONE when it is no such number. */
        final int number;
        final Pointer rest;

        private Pointer(String step, Pointer rest) {
            this.step = step;
            this.number = numberIn(step);
            this.rest = rest;
        }

        /** null when the value is no pointer. */
        static Pointer of(Value value, StringBuilder builder) {
            if (value == null || value.kind != Value.STRING) {
                return null;
            }
            String text = value.text;
            Pointer pointer = new Pointer("", null);
            int end = text.length();
            for (int i = end - 1; i >= 0; i--) {
                if (text.charAt(i) == '/') {
                    String step = decoded(text.substring(i + 1, end), builder);
                    if (step == null) {
                        return null;
                    }
                    pointer = new Pointer(step, pointer);
                    end = i;
                }
            }
            return end == 0 ? pointer : null;
        }

        private static String decoded(String step, StringBuilder builder) {
            if (step.indexOf('~') < 0) {
                return step;
            }
            builder.setLength(0);
            for (int i = 0; i < step.length(); i++) {
                char c = step.charAt(i);
                if (c == '~') {
                    i++;
                    char sign = i < step.length() ? step.charAt(i) : Cursor.END;
                    if (sign != '0' && sign != '1') {
                        return null;
                    }
                    c = sign == '0' ? '~' : '/';
                }
                builder.append(c);
            }
            return builder.toString();
        }

        private static int numberIn(String step) {
            int length = step.length();
            if (length == 0 || length > 3 || length > 1 && step.charAt(0) == '0') {
                return NONE;
            }
            int sum = 0;
            for (int i = 0; i < length; i++) {
                if (!isDigit(step.charAt(i))) {
                    return NONE;
                }
                sum = sum * 10 + step.charAt(i) - '0';
            }
            return sum;
        }

        boolean hasNoStep() {
            return rest == null;
        }

        boolean hasOneStep() {
            return rest != null && rest.rest == null;
        }

        boolean beginsWith(Pointer other) {
            Pointer mine = this;
            for (Pointer its = other; its.rest != null; its = its.rest) {
                if (mine.rest == null || !mine.step.equals(its.step)) {
                    return false;
                }
                mine = mine.rest;
            }
            return true;
        }

        /** Where its first step leads to in the value; NONE when that is nowhere. */
        int firstPlaceIn(Value value) {
            return value.kind == Value.OBJECT ? value.placeOfMember(step) : value.placeOfElement(number);
        }

        /** What it leads to from the value; null when that is nothing. */
        Value target(Value value) {
            Value target = value;
            for (Pointer way = this; way.rest != null; way = way.rest) {
                int place = way.firstPlaceIn(target);
                if (place < 0) {
                    return null;
                }
                target = target.parts.get(place);
            }
            return target;
        }
    }

    /** An operation of a patch. */
    private static final class Operation {
        static final int ADD = 1;
        static final int REMOVE = 2;
        static final int REPLACE = 3;
        static final int MOVE = 4;
        static final int COPY = 5;
        static final int TEST = 6;

        final int kind;
        final Pointer path;
        /** null when the kind needs none. */
        final Pointer from;
        /** null when the kind needs none. */
        final Value value;

        private Operation(int kind, Pointer path, Pointer from, Value value) {
            this.kind = kind;
            this.path = path;
            this.from = from;
            this.value = value;
        }

        /** null when the value is no patch. */
        static ArrayList<Operation> allOf(Value patch, StringBuilder builder) {
            if (patch.kind != Value.ARRAY) {
                return null;
            }
            ArrayList<Operation> operations = new ArrayList<>();
            for (int i = 0; i < patch.parts.size(); i++) {
                Operation operation = of(patch.parts.get(i), builder);
                if (operation == null) {
                    return null;
                }
                operations.add(operation);
            }
            return operations;
        }

        private static Operation of(Value part, StringBuilder builder) {
            int kind = kindOf(part.member("op"));
            Pointer path = Pointer.of(part.member("path"), builder);
            if (kind == NONE || path == null) {
                return null;
            }
            if (kind == MOVE || kind == COPY) {
                Pointer from = Pointer.of(part.member("from"), builder);
                return from == null ? null : new Operation(kind, path, from, null);
            }
            if (kind == REMOVE) {
                return new Operation(kind, path, null, null);
            }
            Value value = part.member("value");
            return value == null ? null : new Operation(kind, path, null, value);
        }

        private static int kindOf(Value op) {
            if (op == null || op.kind != Value.STRING) {
                return NONE;
            }
            if (op.text.equals("add")) {
                return ADD;
            }
            if (op.text.equals("remove")) {
                return REMOVE;
            }
            if (op.text.equals("replace")) {
                return REPLACE;
            }
            if (op.text.equals("move")) {
                return MOVE;
            }
            if (op.text.equals("copy")) {
                return COPY;
            }
            return op.text.equals("test") ? TEST : NONE;
        }
    }

    /** Does operations on a document of its own; the store takes it over when all could be done. */
    private static final class Patcher {
        private final int limit;
        private final int room;
        private Value document;
        /** Why an operation can't be done: LOST, unless it was said otherwise. */
        private int fault = LOST;

        Patcher(Value document, int limit, int room) {
            this.document = document;
            this.limit = limit;
            this.room = room;
        }

        int perform(ArrayList<Operation> operations) {
            for (int i = 0; i < operations.size(); i++) {
                Value after = after(operations.get(i));
                if (after == null) {
                    return fault;
                }
                if (after.depth > limit) {
                    return DEEP;
                }
                if (after.count > room) {
                    return FULL;
                }
                document = after;
            }
            return DONE;
        }

        /** The document after the operation; null when it can't be done. */
        private Value after(Operation operation) {
            switch (operation.kind) {
                case Operation.MOVE:
                    return afterMove(operation.from, operation.path);
                case Operation.COPY:
                    Value copied = operation.from.target(document);
                    return copied == null ? null : edited(document, operation.path, Operation.ADD, copied);
                case Operation.TEST:
                    return afterTest(operation.path.target(document), operation.value);
                default:
                    return edited(document, operation.path, operation.kind, operation.value);
            }
        }

        private Value afterTest(Value tested, Value value) {
            if (tested == null) {
                return null;
            }
            if (!Value.same(tested, value)) {
                fault = UNLIKE;
                return null;
            }
            return document;
        }

        private Value afterMove(Pointer from, Pointer path) {
            Value moved = from.target(document);
            if (moved == null) {
                return null;
            }
            if (path.beginsWith(from)) {
                return from.beginsWith(path) ? document : null;
            }
            Value rest = edited(document, from, Operation.REMOVE, null);
            return rest == null ? null : edited(rest, path, Operation.ADD, moved);
        }

        /** The value after an add, a remove or a replace at the end of the way; null when that is lost. */
        private static Value edited(Value at, Pointer way, int kind, Value value) {
            if (way.hasNoStep()) {
                // Only a remove comes without a value: the whole document can't be taken out.
                return value;
            }
            boolean adds = kind == Operation.ADD && way.hasOneStep();
            int place = adds ? placeToAdd(at, way) : way.firstPlaceIn(at);
            if (place < 0) {
                return null;
            }
            if (adds && (at.kind == Value.ARRAY || place == at.parts.size())) {
                return at.spliced(place, 0, value.named(way.step));
            }
            if (kind == Operation.REMOVE && way.hasOneStep()) {
                return at.spliced(place, 1, null);
            }
            Value old = at.parts.get(place);
            Value part = edited(old, way.rest, kind, value);
            return part == null ? null : at.spliced(place, 1, part.named(old.name));
        }

        /** Behind all parts is a place to add, too; NONE when there is no place. */
        private static int placeToAdd(Value at, Pointer last) {
            if (at.kind == Value.OBJECT) {
                int old = at.placeOfMember(last.step);
                return old < 0 ? at.parts.size() : old;
            }
            int place = last.step.equals("-") ? at.parts.size() : last.number;
            return at.kind == Value.ARRAY && place <= at.parts.size() ? place : NONE;
        }
    }

    /** Reads a path; every method answers null where it is none. */
    private static final class PathReader {
        private final Cursor cursor;

        PathReader(Cursor cursor) {
            this.cursor = cursor;
        }

        ArrayList<Segment> whole() {
            if (!cursor.took('$')) {
                return null;
            }
            ArrayList<Segment> segments = new ArrayList<>();
            for (int i = 0; i < DRAFT_ROOM && cursor.ahead() != Cursor.END; i++) {
                Segment segment = segment();
                if (segment == null) {
                    return null;
                }
                segments.add(segment);
            }
            return segments;
        }

        private Segment segment() {
            Segment segment = opening();
            if (segment == null || segment.isWhole()) {
                return segment;
            }
            for (int i = 0; i < DRAFT_ROOM; i++) {
                cursor.skipBlanks();
                Selector selector = selector();
                if (selector == null) {
                    return null;
                }
                segment.selectors.add(selector);
                cursor.skipBlanks();
                if (cursor.took(']')) {
                    return segment;
                }
                if (!cursor.took(',')) {
                    return null;
                }
            }
            return null;
        }

        /** A segment up to its [, or a whole one, when it has none. */
        private Segment opening() {
            boolean dotted = cursor.took('.');
            Segment segment = new Segment(dotted && cursor.took('.'));
            if ((segment.deep || !dotted) && cursor.took('[')) {
                return segment;
            }
            if (!dotted) {
                return null;
            }
            Selector only = cursor.took('*') ? Selector.all() : Selector.named(cursor.name());
            if (only == null) {
                return null;
            }
            segment.selectors.add(only);
            return segment;
        }

        private Selector selector() {
            if (cursor.took('*')) {
                return Selector.all();
            }
            if (cursor.took('?')) {
                ArrayList<Selector> accesses = cursor.took('@') ? accesses() : null;
                return accesses == null ? null : Selector.tested(testBehind(accesses));
            }
            if (cursor.isAtString()) {
                return Selector.named(cursor.quoted());
            }
            int first = index();
            if (!cursor.took(':')) {
                return Selector.indexed(first);
            }
            int second = index();
            int third = cursor.took(':') ? index() : Selector.LEFT_OUT;
            return Selector.slice(first, second, third);
        }

        /** LEFT_OUT when none begins here, BROKEN when one begins and does not go on as it must. */
        private int index() {
            if (cursor.took('0')) {
                return 0;
            }
            boolean minus = cursor.took('-');
            int sum = 0;
            // A fourth digit is left where it stands: nothing that may follow is a digit.
            for (int i = 0; i < 3 && isDigit(cursor.ahead()); i++) {
                char digit = cursor.ahead();
                cursor.took(digit);
                if (sum == 0 && digit == '0') {
                    return Selector.BROKEN;
                }
                sum = sum * 10 + digit - '0';
            }
            if (sum == 0) {
                return minus ? Selector.BROKEN : Selector.LEFT_OUT;
            }
            return minus ? -sum : sum;
        }

        private ArrayList<Selector> accesses() {
            ArrayList<Selector> accesses = new ArrayList<>();
            for (int i = 0; i < DRAFT_ROOM; i++) {
                Selector access = null;
                if (cursor.took('.')) {
                    access = Selector.named(cursor.name());
                } else if (cursor.took('[')) {
                    cursor.skipBlanks();
                    access = cursor.isAtString() ? Selector.named(cursor.quoted()) : Selector.indexed(index());
                    cursor.skipBlanks();
                    access = cursor.took(']') ? access : null;
                } else {
                    return accesses;
                }
                if (access == null) {
                    return null;
                }
                accesses.add(access);
            }
            return null;
        }

        private Test testBehind(ArrayList<Selector> accesses) {
            cursor.skipBlanks();
            int sign = sign();
            if (sign == Test.NO_SIGN) {
                return new Test(accesses, sign, null);
            }
            if (sign == Test.BROKEN) {
                return null;
            }
            cursor.skipBlanks();
            Value literal = null;
            if (cursor.isAtString()) {
                String text = cursor.quoted();
                literal = text == null ? null : new Value(Value.STRING, text, 0);
            } else {
                literal = cursor.isAtNumber() ? cursor.number() : cursor.word();
            }
            return literal == null ? null : new Test(accesses, sign, literal);
        }

        private int sign() {
            if (cursor.took('<')) {
                return cursor.took('=') ? Test.NOT_GREATER : Test.LESS;
            }
            if (cursor.took('>')) {
                return cursor.took('=') ? Test.NOT_LESS : Test.GREATER;
            }
            if (cursor.took('=')) {
                return cursor.took('=') ? Test.EQUAL : Test.BROKEN;
            }
            if (cursor.took('!')) {
                return cursor.took('=') ? Test.NOT_EQUAL : Test.BROKEN;
            }
            return Test.NO_SIGN;
        }
    }

    /** A segment of a path. */
    private static final class Segment {
        private final boolean deep;
        private final ArrayList<Selector> selectors = new ArrayList<>();

        Segment(boolean deep) {
            this.deep = deep;
        }

        boolean isWhole() {
            return !selectors.isEmpty();
        }

        /** What it makes of the list; null when that is full. */
        ArrayList<Value> nextList(ArrayList<Value> list) {
            ArrayList<Value> next = new ArrayList<>();
            for (int i = 0; i < list.size(); i++) {
                if (!addChosen(this, list.get(i), next)) {
                    return null;
                }
            }
            return next;
        }

        /** False when the list is full. */
        private static boolean addChosen(Segment segment, Value value, ArrayList<Value> list) {
            for (int i = 0; i < segment.selectors.size(); i++) {
                segment.selectors.get(i).choose(value, list);
                if (list.size() > LIST_ROOM) {
                    return false;
                }
            }
            for (int i = 0; segment.deep && i < value.parts.size(); i++) {
                if (!addChosen(segment, value.parts.get(i), list)) {
                    return false;
                }
            }
            return true;
        }
    }

    /** A selector of a segment; those with a name or an index are the accesses of tests, too. */
    private static final class Selector {
        /** These two stand for an index: no index has more than three digits. */
        static final int LEFT_OUT = 1000;
        static final int BROKEN = 1001;

        private static final int ALL = 0;
        private static final int NAME = 1;
        private static final int INDEX = 2;
        private static final int SLICE = 3;
        private static final int TEST = 4;

        private final int kind;
        private final String name;
        private final int first;
        private final int second;
        private final int third;
        private final Test test;

        private Selector(int kind, String name, int first, int second, int third, Test test) {
            this.kind = kind;
            this.name = name;
            this.first = first;
            this.second = second;
            this.third = third;
            this.test = test;
        }

        static Selector all() {
            return new Selector(ALL, "", 0, 0, 0, null);
        }

        /** null when there is no name. */
        static Selector named(String name) {
            return name == null ? null : new Selector(NAME, name, 0, 0, 0, null);
        }

        /** null when there is no index. */
        static Selector indexed(int index) {
            return index == LEFT_OUT || index == BROKEN ? null : new Selector(INDEX, "", index, 0, 0, null);
        }

        /** null when an index is broken. */
        static Selector slice(int from, int to, int pace) {
            boolean broken = from == BROKEN || to == BROKEN || pace == BROKEN;
            return broken ? null : new Selector(SLICE, "", from, to, pace, null);
        }

        /** null when there is no test. */
        static Selector tested(Test test) {
            return test == null ? null : new Selector(TEST, "", 0, 0, 0, test);
        }

        void choose(Value value, ArrayList<Value> list) {
            if (kind == SLICE) {
                chooseSlice(value, list);
            } else if (kind == ALL || kind == TEST) {
                for (int i = 0; i < value.parts.size(); i++) {
                    Value part = value.parts.get(i);
                    if (test == null || test.holds(part)) {
                        list.add(part);
                    }
                }
            } else {
                Value one = oneIn(value);
                if (one != null) {
                    list.add(one);
                }
            }
        }

        /** What a name or an index chooses; null when that is nothing. */
        Value oneIn(Value value) {
            int number = first < 0 ? first + value.parts.size() : first;
            int place = kind == NAME ? value.placeOfMember(name) : value.placeOfElement(number);
            return place < 0 ? null : value.parts.get(place);
        }

        private void chooseSlice(Value value, ArrayList<Value> list) {
            int pace = third == LEFT_OUT ? 1 : third;
            if (value.kind != Value.ARRAY || pace == 0) {
                return;
            }
            int size = value.parts.size();
            if (pace > 0) {
                int end = bound(second, size, 0, size, size);
                for (int i = bound(first, size, 0, size, 0); i < end; i += pace) {
                    list.add(value.parts.get(i));
                }
            } else {
                int end = bound(second, size, -1, size - 1, -1);
                for (int i = bound(first, size, -1, size - 1, size - 1); i > end; i += pace) {
                    list.add(value.parts.get(i));
                }
            }
        }

        private static int bound(int index, int size, int lowest, int highest, int instead) {
            if (index == LEFT_OUT) {
                return instead;
            }
            int number = index < 0 ? index + size : index;
            return Math.max(lowest, Math.min(highest, number));
        }
    }

    /** A test of a path: accesses and, unless it has no sign, what they lead to is compared with a literal. */
    private static final class Test {
        static final int BROKEN = -1;
        static final int NO_SIGN = 0;
        static final int EQUAL = 1;
        static final int NOT_EQUAL = 2;
        static final int LESS = 3;
        static final int NOT_GREATER = 4;
        static final int GREATER = 5;
        static final int NOT_LESS = 6;

        private final ArrayList<Selector> accesses;
        private final int sign;
        /** null when there is no sign. */
        private final Value literal;

        Test(ArrayList<Selector> accesses, int sign, Value literal) {
            this.accesses = accesses;
            this.sign = sign;
            this.literal = literal;
        }

        boolean holds(Value value) {
            Value reached = value;
            for (int i = 0; i < accesses.size() && reached != null; i++) {
                reached = accesses.get(i).oneIn(reached);
            }
            if (reached == null) {
                return sign == NOT_EQUAL;
            }
            if (literal == null) {
                return true;
            }
            boolean same = Value.same(reached, literal);
            switch (sign) {
                case EQUAL:
                    return same;
                case NOT_EQUAL:
                    return !same;
                case LESS:
                    return Value.less(reached, literal);
                case NOT_GREATER:
                    return same || Value.less(reached, literal);
                case GREATER:
                    return Value.less(literal, reached);
                default:
                    return same || Value.less(literal, reached);
            }
        }
    }
}
