import java.util.ArrayList;
import java.util.List;
import java.util.Random;

/** Laws that hold for every document, tried on documents that a fixed seed makes. */
public final class LawsTest {
    private static final String[] NAMES = {"a", "b", "", "0", "-", "c/d", "~", "~1", "it's", "\"", "\\", "two words"};
    private static final String[] SCALARS = {"null", "true", "false", "0", "-1", "42", "9223372036854775807",
        "-9223372036854775808", "\"\"", "\"a\"", "\"\\\"\"", "\"\\\\/\""};

    /** A value in a made document, and the ways to it. */
    private static final class Place {
        String pointer;
        String path;
        String text;
        int depth;
        boolean comesBackWhenAdded;
    }

    private final Random random;
    private final List<Place> places = new ArrayList<>();

    private LawsTest(int seed) {
        random = new Random(seed);
    }

    public static void main(String[] args) {
        for (int seed = 0; seed < 400; seed++) {
            LawsTest made = new LawsTest(seed);
            Place whole = made.grow(1 + seed % 5, "", "$", false);
            if (whole.text.length() <= 90 && made.places.size() <= 32) {
                made.tryLaws(whole);
            }
        }
        Probe.end();
    }

    private Place grow(int levels, String pointer, String path, boolean comesBackWhenAdded) {
        Place place = new Place();
        place.pointer = pointer;
        place.path = path;
        place.comesBackWhenAdded = comesBackWhenAdded;
        places.add(place);
        int kind = levels == 0 ? 0 : random.nextInt(5);
        if (kind == 0) {
            place.text = SCALARS[random.nextInt(SCALARS.length)];
        } else {
            growParts(place, levels - 1, kind < 3);
        }
        return place;
    }

    private void growParts(Place place, int levels, boolean array) {
        StringBuilder text = new StringBuilder();
        int parts = random.nextInt(4);
        int firstName = random.nextInt(NAMES.length);
        for (int i = 0; i < parts; i++) {
            String name = NAMES[(firstName + i) % NAMES.length];
            String step = array ? "" + i : name.replace("~", "~0").replace("/", "~1");
            String selector = array ? "" + i : "'" + name.replace("\\", "\\\\").replace("'", "\\'") + "'";
            Place part = grow(levels, place.pointer + "/" + step, place.path + "[" + selector + "]", array || i == parts - 1);
            text.append(i == 0 ? "" : ",").append(array ? "" : "\"" + escaped(name) + "\":").append(part.text);
            place.depth = Math.max(place.depth, part.depth);
        }
        place.depth++;
        place.text = array ? "[" + text + "]" : "{" + text + "}";
    }

    private static String escaped(String text) {
        return text.replace("\\", "\\\\").replace("\"", "\\\"");
    }

    private void tryLaws(Place whole) {
        isShownAsItWasRead(whole);
        isNotReadWhenCut(whole);
        for (Place place : places) {
            Probe.asked("a path leads to its value", whole.text, place.path, place.text);
            String pointer = escaped(place.pointer);
            stays("a value is equal to itself", whole, Op.test(pointer, place.text));
            stays("replaced by itself", whole, Op.replace(pointer, place.text));
            stays("moved to where it is", whole, Op.move(pointer, pointer));
            if (place.comesBackWhenAdded) {
                stays("taken out and added again", whole, Op.all(Op.remove(pointer), Op.add(pointer, place.text)));
            }
            refused("wholly or not at all", whole, Op.all(Op.replace(pointer, "0"), Op.test(pointer, "1")));
        }
    }

    private void isShownAsItWasRead(Place whole) {
        Probe p = new Probe("a text without blanks is shown as it was read");
        p.reads(whole.text, whole.text);
        p.due("depth of " + whole.text, p.store.depth(0), whole.depth);
        p.due("count of " + whole.text, p.store.count(0), places.size());
        p.queryAnswers(0, "$..*", places.size() - 1);
    }

    private static void isNotReadWhenCut(Place whole) {
        if (whole.depth == 0) {
            return;
        }
        for (int end = 0; end < whole.text.length(); end++) {
            Probe.unread("something is missing", whole.text.substring(0, end), 1);
        }
    }

    private static void stays(String law, Place whole, String patch) {
        if (patch.length() <= 160) {
            Probe.patched(law, whole.text, patch, whole.text);
        }
    }

    private static void refused(String law, Place whole, String patch) {
        if (patch.length() <= 160) {
            Probe.unpatched(law, whole.text, patch, 7);
        }
    }
}
