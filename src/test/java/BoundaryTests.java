import java.lang.reflect.Method;
import java.lang.reflect.Modifier;
import java.util.ArrayList;
import java.util.HashMap;
import java.util.LinkedHashMap;
import java.util.List;
import java.util.Map;

/**
 * Each sentence of the document that names a boundary (the last that is taken, the first that is
 * refused, empty, full, a wrap-around, a refused call), with a test of its own on a new object.
 *
 * <p>A test is a script: calls with blanks between, told apart by | or a new line; "= n" is the answer
 * that is due. Before a call, ! says that it is refused and ~ that it is only asked: both must change
 * nothing that later calls show, but for ! the count of that refusal. What is changed is told by a
 * twin, an object with the same calls but that one: all that can be asked of both is asked, before and
 * after restore(). "write s sort .." makes a ROW of a text, "word s .." one of ints; "scene" and
 * "full" are the streets below.
 */
public final class BoundaryTests {
    private static final int MOST_CALLS = 512;

    /** A street with something everywhere, three LETTERS and three PANES, THE IMAGE with two of each. */
    private static final String SCENE = """
        form 0x00FF | form 0xFF00 | pane 0 3 1 | pane 6 4 5 | hang 0 0 | hang 1 1
        row 0 0 3 | set 0 0 1 | set 0 2 -1
        row 1 3 2 | set 1 0 1
        row 4 0 1 | press 4
        show 2 0 | image
        scratch 0 5 | night | hours 2 | ask 2 3 | seed 77 | act 1 2 5 | room 0 5
        form 0x0F0F | pane 3 2 2 | hang 2 2 | show 3 2
        """;

    /** Eight LETTERS and eight PANES. */
    private static final String FULL = """
        form 1 | form 2 | form 4 | form 8 | form 16 | form 32 | form 64 | form 65535
        pane 0 0 0 | pane 1 0 0 | pane 2 0 0 | pane 3 0 0 | pane 4 0 0 | pane 5 0 0 | pane 6 0 0 | pane 0 9 9
        hang 0 0 | hang 7 7 | night
        """;

    /** READ as 0 at HOURS 0 to 3, as 1 at 4 and 5, as 0 from 6 on: the row of the LACE goes last. */
    private static final String GAP = "form 0x0013 | form 0xC600 | pane 5 0 2 | hang 0 0\n";

    private static final Map<String, Method> FACE = new HashMap<>();
    private static int tests = 0;
    private static int wrong = 0;

    public static void main(String[] args) {
        for (Method method : PrintedByFrost.class.getDeclaredMethods()) {
            if (Modifier.isPublic(method.getModifiers())) {
                FACE.put(method.getName(), method);
            }
        }
        atFirst();
        rows();
        sets();
        lowestBits();
        copies();
        elements();
        shows();
        says();
        forms();
        panes();
        sharpness();
        hangs();
        weather();
        pressTexts();
        pressNumbers();
        pressRoom();
        pressWhole();
        pressRows();
        melts();
        iceAsked();
        icePatterns();
        iceBeside();
        iceMelting();
        shapes();
        reads();
        lasts();
        pages();
        prints();
        becomes();
        turns();
        could();
        likeness();
        mends();
        stoves();
        chills();
        mistaken();
        papers();
        nights();
        hours();
        truths();
        breaths();
        scratches();
        winters();
        acts();
        traces();
        images();
        statuses();
        lifetimes();
        extremes();
        System.out.println(tests + " boundaries, " + wrong + " answers not as due");
        if (wrong != 0) {
            System.exit(1);
        }
    }

    // ---- scripts

    private record Step(char mark, String name, long[] with, boolean looked, long due) {
        String told() {
            StringBuilder text = new StringBuilder(name).append('(');
            for (int i = 0; i < with.length; i++) {
                text.append(i > 0 ? ", " : "").append(with[i]);
            }
            return text.append(')').toString();
        }
    }

    /** A new object with how many calls it had, as no more than 512 are promised. */
    private static final class Subject {
        private final PrintedByFrost real = new PrintedByFrost();
        private int calls = 0;

        long call(String name, long... with) {
            calls++;
            if (calls > MOST_CALLS) {
                throw new IllegalStateException("a test with more than 512 calls of one object");
            }
            Method method = FACE.get(name);
            Class<?>[] types = method.getParameterTypes();
            Object[] values = new Object[types.length];
            for (int i = 0; i < types.length; i++) {
                if (types[i] == long.class) {
                    values[i] = with[i];
                } else {
                    values[i] = Math.toIntExact(with[i]);
                }
            }
            try {
                return ((Number) method.invoke(real, values)).longValue();
            } catch (ReflectiveOperationException e) {
                throw new IllegalStateException(name + " threw or can't be called", e);
            }
        }

        long call(Step step) {
            return call(step.name, step.with);
        }
    }

    private static long number(String text) {
        return switch (text) {
            case "NONE" -> -1;
            case "MAX" -> Integer.MAX_VALUE;
            case "MIN" -> Integer.MIN_VALUE;
            case "LMAX" -> Long.MAX_VALUE;
            case "LMIN" -> Long.MIN_VALUE;
            default -> Long.decode(text);
        };
    }

    private static List<Step> stepsOf(String script) {
        List<Step> steps = new ArrayList<>();
        for (String line : script.split("[|\n]")) {
            String call = line.strip();
            if (call.equals("scene")) {
                steps.addAll(stepsOf(SCENE));
            } else if (call.equals("full")) {
                steps.addAll(stepsOf(FULL));
            } else if (call.startsWith("write ")) {
                writeSteps(line.stripLeading(), steps);
            } else if (call.startsWith("word ")) {
                wordSteps(call.split(" +"), steps);
            } else if (!call.isEmpty()) {
                steps.add(stepOf(call));
            }
        }
        return steps;
    }

    private static Step step(String name, long... with) {
        return new Step(' ', name, with, false, 0);
    }

    /** The text goes on to the line's end, blanks at its end too (\s in a text block). */
    private static void writeSteps(String line, List<Step> steps) {
        String[] parts = line.split(" ", 4);
        long shelf = number(parts[1]);
        String text = parts.length > 3 ? parts[3] : "";
        steps.add(step("row", shelf, number(parts[2]), text.length()));
        for (int i = 0; i < text.length(); i++) {
            steps.add(step("set", shelf, i, text.charAt(i)));
        }
    }

    private static void wordSteps(String[] parts, List<Step> steps) {
        long shelf = number(parts[1]);
        steps.add(step("row", shelf, 2, parts.length - 2));
        for (int i = 2; i < parts.length; i++) {
            steps.add(step("set", shelf, i - 2, number(parts[i])));
        }
    }

    private static Step stepOf(String call) {
        char mark = call.charAt(0) == '!' || call.charAt(0) == '~' ? call.charAt(0) : ' ';
        String[] sides = (mark == ' ' ? call : call.substring(1)).split("=");
        String[] words = sides[0].strip().split(" +");
        long[] with = new long[words.length - 1];
        for (int i = 0; i < with.length; i++) {
            with[i] = number(words[i + 1]);
        }
        boolean looked = sides.length > 1;
        return new Step(mark, words[0], with, looked, looked ? number(sides[1].strip()) : 0);
    }

    private static void test(int promise, String sentence, String script) {
        tests++;
        List<Step> steps = stepsOf(script);
        Subject subject = new Subject();
        for (int i = 0; i < steps.size(); i++) {
            Step step = steps.get(i);
            long got = subject.call(step);
            if (step.looked && got != step.due) {
                fault(promise, sentence, step.told() + " answered " + got + ", due is " + step.due);
            }
            if (step.mark != ' ') {
                changesNothing(promise, sentence, steps.subList(0, i), step);
            }
        }
    }

    private static void fault(int promise, String sentence, String what) {
        wrong++;
        System.out.println("promise " + promise + ", \"" + sentence + "\": " + what);
    }

    // ---- twins

    private static void changesNothing(int promise, String sentence, List<Step> before, Step step) {
        List<Step> with = new ArrayList<>(before);
        with.add(step);
        Map<String, Long> changed = seenAfter(with);
        Map<String, Long> due = seenAfter(before);
        if (step.mark == '!') {
            due.merge("status(" + (10 + refusalOf(step.due)) + ")", 1L, Long::sum);
        }
        if (step.name.equals("press")) {
            // The FAULT is of the latest press that came to a ROW: that one is looked at by itself.
            changed.keySet().removeIf(call -> call.endsWith("fault()"));
            due.keySet().removeIf(call -> call.endsWith("fault()"));
        }
        for (String call : due.keySet()) {
            if (!due.get(call).equals(changed.get(call))) {
                fault(promise, sentence, call + " after " + step.told() + " answers " + changed.get(call)
                        + ", due is " + due.get(call));
                return;
            }
        }
        if (due.size() != changed.size()) {
            fault(promise, sentence, step.told() + " changes how much there is");
        }
    }

    private static long refusalOf(long answer) {
        return answer == -11 ? 1 : answer == -16 ? 6 : -answer;
    }

    /** All that an object shows after some calls, and what its IMAGE shows. */
    private static Map<String, Long> seenAfter(List<Step> steps) {
        Subject subject = new Subject();
        for (Step step : steps) {
            subject.call(step);
        }
        Map<String, Long> seen = new LinkedHashMap<>();
        look(subject, "", seen);
        long restored = subject.call("restore");
        seen.put("restore()", restored);
        if (restored >= 0) {
            look(subject, "restored ", seen);
        }
        return seen;
    }

    private static void note(Subject subject, String prefix, Map<String, Long> seen, String name, long... with) {
        seen.put(prefix + new Step(' ', name, with, false, 0).told(), subject.call(name, with));
    }

    private static void look(Subject subject, String prefix, Map<String, Long> seen) {
        for (int what = 0; what <= 17; what++) {
            if (what <= 8 || what >= 11 && prefix.isEmpty()) {
                note(subject, prefix, seen, "status", what);
            }
        }
        for (int letter = 0; letter < seen.get(prefix + "status(0)"); letter++) {
            note(subject, prefix, seen, "formOf", letter);
        }
        for (int pane = 0; pane < seen.get(prefix + "status(1)"); pane++) {
            for (int what = 0; what <= 4; what++) {
                note(subject, prefix, seen, "paneOf", pane, what);
            }
            note(subject, prefix, seen, "hangs", pane);
            for (int what = 0; what <= 16; what++) {
                note(subject, prefix, seen, "truth", pane, what);
            }
        }
        note(subject, prefix, seen, "fault");
        for (int i = 0; i < Math.min(seen.get(prefix + "status(8)"), 20); i++) {
            note(subject, prefix, seen, "trace", i);
        }
        for (int shelf = 0; shelf < 8; shelf++) {
            lookAtShelf(subject, prefix, seen, shelf);
        }
    }

    private static void lookAtShelf(Subject subject, String prefix, Map<String, Long> seen, int shelf) {
        note(subject, prefix, seen, "holds", shelf);
        if (seen.get(prefix + "holds(" + shelf + ")") < 100) {
            return;
        }
        for (int i = 0; i < 6; i++) {
            note(subject, prefix, seen, "element", shelf, i);
        }
        // The size: none can be copied from beyond it.
        int least = 0;
        int most = 160;
        while (least < most) {
            int middle = (least + most + 1) / 2;
            if (subject.call("copy", shelf, shelf, middle, 0, 0) == 1) {
                least = middle;
            } else {
                most = middle - 1;
            }
        }
        seen.put(prefix + "size of " + shelf, (long) least);
    }

    // ---- promise 1

    private static void atFirst() {
        test(1, "No LETTERS", """
            status 0 = 0 | ! formOf 0 = -1 | ~ reads 0 = -1 | ! closest = -5 | ! mend 0 = -1
            """);
        test(1, "no PANES", """
            status 1 = 0 | ! paneOf 0 0 = -5 | ~ mistaken = 0 | ~ let = 0 | ~ page 0 = 0 | ~ page 24 = 0
            ! hangs 0 = -11 | ! room 0 0 = -1 | ! truth 0 0 = -1
            """);
        test(1, "COLD 20, WET 5, OUT 1 at first", "status 2 = 20 | status 3 = 5 | status 4 = 1");
        test(1, "HOUR 24 at first", "status 5 = 24 | ! hours 1 = -7");
        test(1, "EDITIONS 0, SEED 1 at first", "status 6 = 0 | status 7 = 1 | seed 5 = 1");
        test(1, "no bodies ran, no REFUSALS", """
            status 8 = 0 | status 11 = 0 | status 12 = 0 | status 13 = 0 | status 14 = 0
            status 15 = 0 | status 16 = 0 | status 17 = 0
            """);
        test(1, "SHELVES hold NOTHING at first", """
            holds 0 = NONE | holds 1 = NONE | holds 2 = NONE | holds 3 = NONE
            holds 4 = NONE | holds 5 = NONE | holds 6 = NONE | holds 7 = NONE
            ! set 0 0 0 = -3 | ! set 7 0 0 = -3 | ! says 0 0 = -3 | ! press 7 = -3
            """);
        test(1, "no FAULT, no TRACE, no IMAGE", "fault = NONE | trace 0 = NONE | ! restore = -6");
        test(1, "a NIGHT of no PANES", """
            night = 0 | status 5 = 0 | status 6 = 0 | hours 24 = 24 | winter 40 = 0
            """);
        tests++;
        PrintedByFrost one = new PrintedByFrost();
        PrintedByFrost other = new PrintedByFrost();
        one.form(5);
        one.pane(0, 0, 0);
        one.row(0, 0, 1);
        one.ask(0, 7);
        one.image();
        one.reads(-1);
        if (other.status(0) + other.status(1) + other.status(16) != 0 || other.holds(0) != -1
                || other.status(2) != 20 || other.restore() != -6) {
            fault(1, "an object's own", "one object shows another's changes");
        }
    }

    // ---- promises 2 to 8: SHELVES

    private static void rows() {
        test(2, "SHELVES 0 to 7", """
            row 0 0 1 = 1 | row 7 0 1 = 1 | holds 0 = 100 | holds 7 = 100
            ! row 8 0 1 = -1 | ! row -1 0 1 = -1 | ! row MAX 0 1 = -1 | ! row MIN 0 1 = -1
            """);
        test(2, "a SORT (0 to 3)", """
            row 0 0 1 = 1 | row 1 1 1 = 1 | row 2 2 1 = 1 | row 3 3 1 = 1
            holds 0 = 100 | holds 1 = 101 | holds 2 = 102 | holds 3 = 103
            ! row 0 4 1 = -6 | ! row 0 -1 1 = -6 | ! row 0 MAX 1 = -6 | ! row 0 MIN 1 = -6 | ! row 4 4 1 = -6
            """);
        test(2, "0 elements", "row 0 0 0 = 1 | holds 0 = 100 | ! set 0 0 0 = -5 | ~ element 0 0 = 0");
        test(2, "160 elements", """
            row 0 3 160 = 1 | set 0 0 4 = 1 | set 0 159 5 = 1 | ! set 0 160 6 = -5
            element 0 0 = 4 | element 0 159 = 5 | ~ element 0 160 = 0
            """);
        test(2, "-7 n above 160", "! row 0 0 161 = -7 | ! row 0 3 MAX = -7 | holds 0 = NONE");
        test(2, "-4 n below 0", "! row 0 0 -1 = -4 | ! row 0 3 MIN = -4 | holds 0 = NONE");
        test(2, "the first that fits", """
            ! row 8 4 -1 = -1 | ! row -1 0 161 = -1 | ! row 8 4 161 = -1
            ! row 0 4 -1 = -4 | ! row 0 4 161 = -6 | ! row 0 -1 161 = -6
            """);
        test(2, "0 at first, in the place of a ROW", """
            row 0 2 160 = 1 | set 0 0 8 = 1 | set 0 80 8 = 1 | set 0 159 9 = 1
            row 0 2 160 = 1 | element 0 0 = 0 | element 0 80 = 0 | element 0 159 = 0
            """);
        test(2, "0 at first, after a PANE in the place of a ROW", """
            row 0 2 2 = 1 | set 0 1 8 = 1 | pane 0 0 0 = 0 | show 0 0 = 1 | row 0 2 2 = 1 | holds 0 = 102
            element 0 1 = 0
            """);
        test(2, "a smaller ROW, then a greater one", """
            row 0 2 3 = 1 | set 0 2 8 = 1 | row 0 2 1 = 1 | ! set 0 1 5 = -5 | row 0 2 3 = 1 | element 0 2 = 0
            """);
        test(2, "a refused one leaves what there is", """
            scene
            ! row 0 4 1 = -6 | ! row 1 0 161 = -7 | ! row 2 0 -1 = -4 | ! row 3 4 0 = -6 | ! row 8 0 0 = -1
            element 0 0 = 1 | element 0 2 = -1 | holds 1 = 103 | holds 2 = 0 | holds 3 = 2
            """);
    }

    private static void sets() {
        test(3, "-1 no such SHELF", """
            scene | ! set 8 0 5 = -1 | ! set -1 0 5 = -1 | ! set MAX 9 5 = -1 | ! set MIN 9 5 = -1
            """);
        test(3, "-2 a PANE", "scene | ! set 2 0 5 = -2 | ! set 3 -1 5 = -2");
        test(3, "-3 NOTHING", "scene | ! set 5 0 5 = -3 | ! set 7 -1 5 = -3");
        test(3, "-5 an element that isn't there", """
            scene
            set 0 0 7 = 1 | set 0 2 8 = 1 | element 0 0 = 7 | element 0 2 = 8
            ! set 0 3 9 = -5 | ! set 0 -1 9 = -5 | ! set 0 MAX 9 = -5 | ! set 0 MIN 9 = -5 | ! set 0 160 9 = -5
            """);
        test(3, "-5 in a ROW of none", "row 6 3 0 | ! set 6 0 1 = -5 | ! set 6 -1 1 = -5");
    }

    private static void lowestBits() {
        test(3, "bytes keep their lowest bits", """
            row 0 0 1
            set 0 0 127 = 1 | element 0 0 = 127 | set 0 0 128 = 1 | element 0 0 = -128
            set 0 0 255 = 1 | element 0 0 = -1 | set 0 0 256 = 1 | element 0 0 = 0
            set 0 0 -128 = 1 | element 0 0 = -128 | set 0 0 -129 = 1 | element 0 0 = 127
            set 0 0 LMAX = 1 | element 0 0 = -1 | set 0 0 LMIN = 1 | element 0 0 = 0
            """);
        test(3, "shorts keep their lowest bits", """
            row 0 1 1
            set 0 0 32767 = 1 | element 0 0 = 32767 | set 0 0 32768 = 1 | element 0 0 = -32768
            set 0 0 65535 = 1 | element 0 0 = -1 | set 0 0 65536 = 1 | element 0 0 = 0
            set 0 0 -32768 = 1 | element 0 0 = -32768 | set 0 0 -32769 = 1 | element 0 0 = 32767
            set 0 0 LMAX = 1 | element 0 0 = -1 | set 0 0 LMIN = 1 | element 0 0 = 0
            """);
        test(3, "ints keep their lowest bits", """
            row 0 2 1
            set 0 0 2147483647 = 1 | element 0 0 = 2147483647 | set 0 0 2147483648 = 1
            element 0 0 = -2147483648
            set 0 0 4294967295 = 1 | element 0 0 = -1 | set 0 0 4294967296 = 1 | element 0 0 = 0
            set 0 0 -2147483648 = 1 | element 0 0 = -2147483648
            set 0 0 -2147483649 = 1 | element 0 0 = 2147483647
            set 0 0 LMAX = 1 | element 0 0 = -1 | set 0 0 LMIN = 1 | element 0 0 = 0
            """);
        test(3, "longs keep all", """
            row 0 3 1
            set 0 0 4294967296 = 1 | element 0 0 = 4294967296 | set 0 0 LMAX = 1 | element 0 0 = LMAX
            set 0 0 LMIN = 1 | element 0 0 = LMIN | set 0 0 -1 = 1 | element 0 0 = -1
            """);
    }

    private static void copies() {
        String five = "row 0 2 5 | set 0 0 10 | set 0 1 11 | set 0 2 12 | set 0 3 13 | set 0 4 14\n";
        test(4, "as they were ahead: up", five + """
            copy 0 0 0 1 4 = 1
            element 0 0 = 10 | element 0 1 = 10 | element 0 2 = 11 | element 0 3 = 12 | element 0 4 = 13
            """);
        test(4, "as they were ahead: down", five + """
            copy 0 0 1 0 4 = 1
            element 0 0 = 11 | element 0 1 = 12 | element 0 2 = 13 | element 0 3 = 14 | element 0 4 = 14
            """);
        test(4, "all to where they are", five + "~ copy 0 0 0 0 5 = 1");
        test(4, "none", five + """
            ~ copy 0 0 0 0 0 = 1 | ~ copy 0 0 5 5 0 = 1 | ~ copy 0 0 5 0 0 = 1 | ~ copy 0 0 0 5 0 = 1
            """);
        test(4, "no others are touched", five + """
            row 1 2 4 | set 1 0 1 | set 1 3 2
            copy 0 1 3 1 2 = 1 | element 1 0 = 1 | element 1 1 = 13 | element 1 2 = 14 | element 1 3 = 2
            element 0 3 = 13 | element 0 4 = 14
            """);
        test(4, "160 of them", """
            row 0 1 160 | set 0 0 3 | set 0 159 4 | row 1 1 160 | copy 0 1 0 0 160 = 1
            element 1 0 = 3 | element 1 159 = 4 | ! copy 0 1 0 0 161 = -5 | copy 0 1 159 0 1 = 1
            element 1 0 = 4
            """);
        test(4, "of no elements", """
            row 0 0 0 | row 1 0 0 | ~ copy 0 1 0 0 0 = 1 | ! copy 0 1 0 0 1 = -5 | ! copy 0 1 1 0 0 = -5
            """);
        test(4, "-1 either SHELF", """
            scene
            ! copy 8 0 0 0 0 = -1 | ! copy -1 0 0 0 0 = -1 | ! copy 0 8 0 0 0 = -1 | ! copy 0 -1 0 0 0 = -1
            ! copy 8 2 -1 -1 -1 = -1 | ! copy 2 8 -1 -1 -1 = -1 | ! copy 5 8 0 0 -1 = -1
            ! copy MIN MAX 0 0 0 = -1
            copy 7 7 0 0 0 = -3 | row 7 0 1 = 1 | ~ copy 7 7 0 0 1 = 1
            """);
        test(4, "-2 either a PANE", """
            scene
            ! copy 2 0 0 0 0 = -2 | ! copy 0 2 0 0 0 = -2 | ! copy 2 3 0 0 0 = -2 | ! copy 2 2 0 0 0 = -2
            ! copy 2 5 -1 -1 -1 = -2 | ! copy 5 2 -1 -1 -1 = -2 | ! copy 0 3 9 9 -1 = -2
            """);
        test(4, "-2 two SORTS, when both hold something", """
            scene
            ! copy 0 1 0 0 1 = -2 | ! copy 1 0 0 0 0 = -2 | ! copy 0 1 -1 -1 -1 = -2
            ! copy 5 1 0 0 0 = -3 | ! copy 1 5 0 0 0 = -3
            """);
        test(4, "-3 either NOTHING", """
            scene
            ! copy 5 0 0 0 0 = -3 | ! copy 0 5 0 0 0 = -3 | ! copy 5 6 0 0 0 = -3 | ! copy 5 5 0 0 0 = -3
            ! copy 5 0 -1 -1 -1 = -3 | ! copy 0 5 -1 -1 -1 = -3
            """);
        test(4, "-4 n below 0", """
            scene | ! copy 0 0 0 0 -1 = -4 | ! copy 0 4 -1 -1 -1 = -4 | ! copy 0 4 9 9 MIN = -4
            """);
        test(4, "-5 i or j below 0", """
            scene
            ! copy 0 4 -1 0 1 = -5 | ! copy 0 4 0 -1 1 = -5 | ! copy 0 4 -1 0 0 = -5 | ! copy 0 4 0 -1 0 = -5
            ! copy 0 4 MIN 0 1 = -5 | ! copy 0 4 0 MIN 1 = -5
            """);
        test(4, "-5 an end that isn't there", """
            scene
            ! copy 0 4 3 0 1 = -5 | ! copy 0 4 0 1 1 = -5 | ! copy 0 4 0 0 2 = -5 | ! copy 4 0 0 0 2 = -5
            ! copy 0 0 1 0 3 = -5 | ! copy 0 0 0 1 3 = -5 | ! copy 0 0 4 0 0 = -5 | ! copy 0 0 0 4 0 = -5
            copy 0 4 2 0 1 = 1 | element 4 0 = -1 | copy 4 0 0 2 1 = 1 | ~ copy 0 0 0 0 3 = 1
            """);
        test(4, "-5 an end that wraps", """
            scene
            ! copy 0 0 1 0 MAX = -5 | ! copy 0 0 0 1 MAX = -5 | ! copy 0 0 MAX 0 1 = -5
            ! copy 0 0 0 MAX 1 = -5
            ! copy 0 0 MAX MAX MAX = -5 | ! copy 0 0 0 0 MAX = -5 | ! copy 0 0 2 2 MAX = -5
            """);
    }

    private static void elements() {
        test(5, "the first and the last element", """
            scene | ~ element 0 0 = 1 | ~ element 0 1 = 0 | ~ element 0 2 = -1
            """);
        test(5, "0 if there is none", """
            scene
            ~ element 0 3 = 0 | ~ element 0 -1 = 0 | ~ element 0 160 = 0 | ~ element 0 MAX = 0
            ~ element 0 MIN = 0
            """);
        test(5, "of a PANE, NOTHING, no SHELF", """
            scene
            ~ element 2 0 = 0 | ~ element 5 0 = 0 | ~ element 8 0 = 0 | ~ element -1 0 = 0 | ~ element MAX 0 = 0
            ~ element MIN 0 = 0
            """);
        test(5, "not what the ROW had that was there", """
            row 0 3 2 | set 0 1 5 | row 0 3 1 | element 0 1 = 0 | pane 0 0 0 | row 1 3 1 | set 1 0 6 | show 1 0
            element 1 0 = 0 | row 2 3 1 | set 2 0 7 | show 2 NONE | element 2 0 = 0
            """);
    }

    private static void shows() {
        test(6, "SHELF s: 0 to 7", """
            scene
            show 0 0 = 1 | show 7 0 = 1 | holds 0 = 0 | holds 7 = 0
            ! show 8 0 = -1 | ! show -1 0 = -1 | ! show 8 NONE = -1 | ! show -1 NONE = -1 | ! show MAX 0 = -1
            """);
        test(6, "a PANE that there is", """
            scene
            show 6 0 = 1 | holds 6 = 0 | show 6 2 = 1 | holds 6 = 2
            ! show 6 3 = -1 | ! show 6 -2 = -1 | ! show 6 MAX = -1 | ! show 6 MIN = -1 | ! show 0 3 = -1
            ! show 5 8 = -1
            """);
        test(6, "or NOTHING: 0", """
            scene | show 2 NONE = 0 | holds 2 = NONE | show 0 NONE = 0 | holds 0 = NONE | ~ show 5 NONE = 0
            """);
        test(6, "no PANES", "! show 0 0 = -1 | ~ show 0 NONE = 0");
        test(6, "eight PANES", "full | show 0 7 = 1 | holds 0 = 7 | ! show 0 8 = -1 | holds 0 = 7");
        test(6, "a PANE in the place of a ROW", "scene | show 0 1 = 1 | holds 0 = 1 | ! set 0 0 1 = -2");
        test(7, "NONE: NOTHING, or no such SHELF", """
            scene
            ~ holds 5 = NONE | ~ holds 8 = NONE | ~ holds -1 = NONE | ~ holds MAX = NONE | ~ holds MIN = NONE
            """);
        test(7, "a PANE's number", "scene | ~ holds 2 = 0 | ~ holds 3 = 2");
        test(7, "100 and the SORT", """
            row 0 0 0 | row 1 1 0 | row 2 2 160 | row 7 3 160
            ~ holds 0 = 100 | ~ holds 1 = 101 | ~ holds 2 = 102 | ~ holds 7 = 103
            """);
    }

    private static void says() {
        // What each KIND (down) says for one of each KIND (across): -2 where it isn't one.
        String[] told = {"5 -2 -2 -2 -2 -2 -2", "12 7 -2 -2 -2 -2 -2", "3 -2 13 -2 -2 -2 -2",
            "3 -2 13 4 -2 -2 -2", "5 -2 -2 -2 5 -2 -2", "12 7 -2 -2 -2 3 -2", "3 -2 13 4 -2 -2 4"};
        for (int kind = 0; kind < 7; kind++) {
            StringBuilder script = new StringBuilder("pane " + kind + " 4 7 | show 0 0\n");
            String[] due = told[kind].split(" ");
            for (int as = 0; as < 7; as++) {
                script.append(due[as].equals("-2") ? "! " : "~ ").append("says 0 ").append(as).append(" = ")
                        .append(due[as]).append('\n');
            }
            test(8, "taken for one of a KIND: KIND " + kind, script.toString());
        }
        test(8, "-1 SHELF", """
            scene | ! says 8 0 = -1 | ! says -1 0 = -1 | ! says MAX 0 = -1 | ! says MIN 0 = -1
            """);
        test(8, "-1 KIND", """
            scene
            ~ says 3 0 = 4 | ! says 2 6 = -2 | ! says 2 7 = -1 | ! says 2 -1 = -1 | ! says 2 MAX = -1
            ! says 2 MIN = -1
            """);
        test(8, "-1 before the others", "scene | ! says 0 7 = -1 | ! says 5 -1 = -1");
        test(8, "-2 a ROW", "scene | ! says 0 0 = -2 | ! says 1 6 = -2");
        test(8, "-3 NOTHING", "scene | ! says 5 0 = -3 | ! says 7 6 = -3");
        test(8, "THICK: the COLD that counts, 0 at least", """
            pane 2 0 9 | show 0 0 | ask 0 10 | ~ says 0 2 = 1 | ask 0 9 | ~ says 0 2 = 0 | ask 0 8
            ~ says 0 2 = 0
            ask 0 0 | ~ says 0 2 = 0 | ask 0 40 | ~ says 0 2 = 31
            """);
        test(8, "SUNNY: its MELT in HOUR 23", """
            pane 4 0 9 | show 0 0 | ask 2 0 | ~ says 0 4 = 3 | ask 2 9 | room 0 9 | ~ says 0 4 = 15
            """);
        for (int a = 0; a <= 9; a++) {
            test(8, "LACE: the row whose CELLS it has always, a " + a,
                    "pane 5 0 " + a + " | show 0 0 | ~ says 0 5 = " + a % 4 + " | ~ says 0 1 = " + a);
        }
    }

    // ---- promises 9 to 16: LETTERS, PANES, what may be asked

    private static void forms() {
        test(9, "16 CELLS as bits (0 to 65535)", """
            form 0 = 0 | form 65535 = 1 | formOf 0 = 0 | formOf 1 = 65535
            ! form 65536 = -6 | ! form -1 = -6 | ! form MAX = -6 | ! form MIN = -6
            """);
        test(9, "8 at most", """
            form 1 = 0 | form 2 = 1 | form 3 = 2 | form 4 = 3 | form 5 = 4 | form 6 = 5 | form 7 = 6
            form 8 = 7
            ! form 9 = -7 | ! form 0 = -7 | ! form 65535 = -7 | formOf 7 = 8 | status 0 = 8
            """);
        test(9, "-6 before -7", "full | ! form 65536 = -6 | ! form -1 = -6 | ! form 65535 = -7");
        test(9, "two alike are two LETTERS", "form 5 = 0 | form 5 = 1 | status 0 = 2");
        test(10, "-1 no such LETTER", """
            scene | ~ formOf 0 = 255 | ~ formOf 2 = 3855 | ! formOf 3 = -1 | ! formOf -1 = -1
            ! formOf MAX = -1 | ! formOf MIN = -1
            """);
        test(10, "of eight LETTERS", "full | ~ formOf 7 = 65535 | ! formOf 8 = -1");
    }

    private static void panes() {
        test(11, "-1 KIND", """
            pane 0 0 0 = 0 | pane 6 0 0 = 1 | paneOf 0 0 = 0 | paneOf 1 0 = 6
            ! pane 7 0 0 = -1 | ! pane -1 0 0 = -1 | ! pane MAX 0 0 = -1 | ! pane MIN 0 0 = -1
            """);
        test(11, "ROOM (0 to 9)", """
            pane 0 0 5 = 0 | pane 0 9 5 = 1 | paneOf 0 1 = 0 | paneOf 1 1 = 9
            ! pane 0 10 5 = -6 | ! pane 0 -1 5 = -6 | ! pane 0 MAX 5 = -6 | ! pane 0 MIN 5 = -6
            """);
        test(11, "a (0 to 9)", """
            pane 0 5 0 = 0 | pane 0 5 9 = 1 | paneOf 0 2 = 0 | paneOf 1 2 = 9
            ! pane 0 5 10 = -6 | ! pane 0 5 -1 = -6 | ! pane 0 5 MAX = -6 | ! pane 0 5 MIN = -6
            """);
        test(11, "8 at most", """
            pane 0 0 0 = 0 | pane 1 0 0 = 1 | pane 2 0 0 = 2 | pane 3 0 0 = 3
            pane 4 0 0 = 4 | pane 5 0 0 = 5 | pane 6 0 0 = 6 | pane 0 0 0 = 7
            ! pane 0 0 0 = -7 | ! pane 6 9 9 = -7 | status 1 = 8
            """);
        test(11, "-1 before -6 before -7", """
            full | ! pane 7 10 10 = -1 | ! pane -1 0 0 = -1 | ! pane 0 10 0 = -6 | ! pane 0 0 -1 = -6
            ! pane 0 0 9 = -7
            """);
        test(11, "nothing HANGS there at first", """
            form 0 | night | pane 0 0 0 = 0 | hangs 0 = NONE | paneOf 0 4 = 0 | truth 0 16 = 0
            """);
        test(11, "a new PANE has no ICE", """
            form 65535 | pane 0 0 0 | hang 0 0 | night = 1 | pane 0 0 0 = 1 | truth 1 16 = 0
            truth 0 16 = 65535
            """);
        test(12, "-5 no such PANE", """
            scene | ~ paneOf 2 0 = 3 | ! paneOf 3 0 = -5 | ! paneOf -1 0 = -5 | ! paneOf MAX 0 = -5
            ! paneOf MIN 4 = -5
            """);
        test(12, "-5 another what", """
            scene
            ~ paneOf 2 0 = 3 | ~ paneOf 2 1 = 2 | ~ paneOf 2 2 = 2 | ~ paneOf 2 3 = 4 | ~ paneOf 0 4 = 32
            ! paneOf 2 5 = -5 | ! paneOf 2 -1 = -5 | ! paneOf 2 MAX = -5 | ! paneOf 2 MIN = -5
            ! paneOf 3 5 = -5
            """);
        test(12, "of eight PANES", "full | ~ paneOf 7 1 = 9 | ! paneOf 8 1 = -5");
        StringBuilder all = new StringBuilder("pane 0 0 0 | ~ paneOf 0 4 = 0\n");
        for (int cell = 0; cell < 16; cell++) {
            all.append("scratch 0 ").append(cell).append(" = 0 | paneOf 0 4 = ").append((2 << cell) - 1)
                    .append('\n');
        }
        test(12, "CELLS scratched: none to all", all.toString());
    }

    /** SHARP of PANES by COLD and WET. */
    private static void sharp(String sentence, int kind, int a, int[][] cases) {
        StringBuilder script = new StringBuilder("pane " + kind + " 0 " + a + "\n");
        for (int[] one : cases) {
            script.append("ask 0 ").append(one[0]).append(" | ask 1 ").append(one[1])
                    .append(" | ~ paneOf 0 3 = ").append(one[2]).append('\n');
        }
        test(12, sentence, script.toString());
    }

    private static void sharpness() {
        int[][] cut = {{0, 0, 0}, {40, 0, 0}, {0, 9, 0}, {19, 1, 0}, {20, 1, 1}, {39, 1, 1}, {40, 1, 2},
            {2, 9, 0}, {3, 9, 1}, {19, 5, 4}, {40, 9, 18}};
        sharp("SHARP: COLD times WET by 20 (cut)", 0, 9, cut);
        sharp("SHARP of SUNNY has nothing of a", 4, 9, cut);
        int[][] thick = {{40, 9, 13}, {12, 9, 1}, {11, 9, 0}, {10, 9, 0}, {9, 9, 0}, {8, 9, 0}, {0, 9, 0},
            {28, 1, 0}, {29, 1, 1}, {30, 0, 0}};
        sharp("THICK: with COLD a less (0 at least)", 2, 9, thick);
        sharp("STOVED too", 3, 9, thick);
        sharp("SMOKED too", 6, 9, thick);
        sharp("THICK with a of 0", 2, 0, cut);
        int[][] north = {{0, 0, 0}, {40, 0, 0}, {19, 1, 0}, {20, 1, 10}, {2, 9, 0}, {3, 9, 10}, {40, 1, 11},
            {40, 9, 27}};
        sharp("NORTH: a more than that, if that is 1 at least", 1, 9, north);
        sharp("LACE too", 5, 9, north);
        sharp("NORTH with a of 0", 1, 0, cut);
    }

    private static void hangs() {
        test(13, "a LETTER: 1; nothing: 0", """
            scene | hang 2 0 = 1 | hangs 2 = 0 | hang 2 2 = 1 | hangs 2 = 2 | hang 2 NONE = 0
            hangs 2 = NONE
            """);
        test(13, "-1 no such LETTER", """
            scene | ! hang 2 3 = -1 | ! hang 2 -2 = -1 | ! hang 2 MAX = -1 | ! hang 2 MIN = -1 | hangs 2 = 2
            """);
        test(13, "-1 no such PANE", """
            scene | ! hang 3 0 = -1 | ! hang -1 0 = -1 | ! hang 3 NONE = -1 | ! hang -1 NONE = -1
            ! hang MAX 0 = -1
            """);
        test(13, "no LETTERS: nothing alone", "pane 0 0 0 | ! hang 0 0 = -1 | ~ hang 0 NONE = 0");
        test(13, "eight LETTERS and PANES", """
            full | hang 7 6 = 1 | hangs 7 = 6 | ! hang 7 8 = -1 | ! hang 8 7 = -1
            """);
        test(13, "it changes no ICE", """
            scene | truth 0 16 = 6 | hang 0 NONE = 0 | truth 0 16 = 6 | night = 4 | truth 0 16 = 0
            truth 2 16 = 3855
            """);
        test(14, "-11 no such PANE (counted as -1)", """
            scene | ~ hangs 0 = 0 | ~ hangs 2 = 2 | ! hangs 3 = -11 | ! hangs -1 = -11 | ! hangs MAX = -11
            ! hangs MIN = -11
            """);
        test(14, "NONE", "pane 0 0 0 | ~ hangs 0 = NONE | status 11 = 0");
        test(14, "of eight PANES", "full | ~ hangs 7 = 7 | ! hangs 8 = -11");
    }

    private static void weather() {
        test(15, "COLD (0 to 40)", """
            scene
            ask 0 40 = 20 | status 2 = 40 | ! ask 0 41 = -6 | ask 0 0 = 40 | status 2 = 0 | ! ask 0 -1 = -6
            ! ask 0 MAX = -6 | ! ask 0 MIN = -6 | status 2 = 0 | status 3 = 5 | status 4 = 3
            """);
        test(15, "WET (0 to 9)", """
            scene
            ask 1 9 = 5 | status 3 = 9 | ! ask 1 10 = -6 | ask 1 0 = 9 | status 3 = 0 | ! ask 1 -1 = -6
            ! ask 1 MAX = -6 | ! ask 1 MIN = -6 | status 2 = 20 | status 3 = 0 | status 4 = 3
            """);
        test(15, "OUT (0 to 9)", """
            scene
            ask 2 9 = 3 | status 4 = 9 | ! ask 2 10 = -6 | ask 2 0 = 9 | status 4 = 0 | ! ask 2 -1 = -6
            ! ask 2 MAX = -6 | ! ask 2 MIN = -6 | status 2 = 20 | status 3 = 5 | status 4 = 0
            """);
        test(15, "what 0 to 2", """
            scene | ! ask 3 0 = -6 | ! ask -1 0 = -6 | ! ask 3 -1 = -6 | ! ask -1 -1 = -6 | ! ask MAX 0 = -6
            ! ask MIN 0 = -6
            """);
        test(16, "ROOM (0 to 9)", """
            scene
            room 0 9 = 5 | paneOf 0 1 = 9 | ! room 0 10 = -6 | room 0 0 = 9 | paneOf 0 1 = 0 | ! room 0 -1 = -6
            ! room 0 MAX = -6 | ! room 0 MIN = -6 | paneOf 0 1 = 0 | paneOf 1 1 = 4
            """);
        test(16, "-1 no such PANE", """
            scene | room 2 3 = 2 | ! room 3 0 = -1 | ! room -1 0 = -1 | ! room MAX 9 = -1
            ! room MIN 9 = -1
            """);
        test(16, "-1 before -6", "scene | ! room 3 10 = -1 | ! room -1 -1 = -1");
    }

    // ---- promises 17 and 18: presses

    /** A press that stands on a new object with some set up. */
    private static void stands(String sentence, String before, String text, int items, String after) {
        String script = before + "\nwrite 0 0 " + text + "\npress 0 = " + items + " | fault = NONE\n" + after;
        test(17, sentence + ": " + text, script);
    }

    /** A press that doesn't: the FAULT, and nothing is told. */
    private static void faulty(String sentence, String before, String text, int place) {
        String script = before + "\nwrite 0 0 " + text + "\n! press 0 = -6 | fault = " + place;
        test(18, sentence + ": \"" + text + "\"", script);
    }

    private static void pressTexts() {
        stands("an ITEM alone", "", "out 0", 1, "status 4 = 0");
        stands("; and ITEM", "", "out 0;wet 9", 2, "status 4 = 0 | status 3 = 9");
        stands("the later one counts", "", "out 2;out 3;out 4", 3, "status 4 = 4");
        // 26 ITEMS of 5 with 25 ; are 155 elements; with five more digits the ROW is full.
        String most = "wet 0;".repeat(25) + "wet 0";
        stands("any number of times", "", most, 26, "status 3 = 0");
        String full = "wet 00000;wet 00;" + "wet 0;".repeat(23) + "wet 3";
        stands("160 elements", "", full, 26, "status 3 = 3 | ~ element 0 160 = 0");
        faulty("it ends too early at 160", "", "wet 00000;" + "wet 0;".repeat(25), 160);
        faulty("too early: no elements", "", "", 0);
        faulty("; at the beginning", "", ";out 0", 0);
        faulty("; at the end", "", "out 0;", 6);
        faulty("two ;", "", "out 0;;out 0", 6);
        faulty("no ;", "", "out 0out 1", 5);
        faulty("another sign than ;", "", "out 0,out 1", 5);
        faulty("a blank ahead of ;", "", "out 0 ;out 1", 5);
        faulty("a blank after ;", "", "out 0; out 1", 6);
        faulty("a blank at the beginning", "", " out 0", 0);
        faulty("a blank at the end", "", "out 0 ", 5);
        faulty("a capital", "", "Out 0", 0);
        for (String word : new String[] {"form", "pane", "hang", "cold", "wet", "out"}) {
            for (int i = 1; i < word.length(); i++) {
                faulty("a word ends too early", "", word.substring(0, i), i);
                String other = word.substring(0, i) + "x" + word.substring(i + 1);
                faulty("a word with another sign", "", other + " 0", i);
                faulty("a word that goes on in the next", "", "out 0;" + word.substring(0, i) + ";", 6 + i);
            }
            faulty("the number of elements, if it ends too early", "", word, word.length());
            faulty("the number of elements after the blank", "", word + " ", word.length() + 1);
            faulty("no blank", "", word + "0", word.length());
            faulty("two blanks", "", word + "  0", word.length() + 1);
            faulty("a longer word", "", word + word.charAt(word.length() - 1) + " 0", word.length());
            faulty("no digit", "", word + " x", word.length() + 1);
            faulty("no sign ahead of digits", "", word + " -0", word.length() + 1);
            faulty("no NUMBER", "", word + ";out 0", word.length());
        }
        for (char sign : new char[] {1, 9, '/', ':', ';', 'a', 127, 160, 255}) {
            faulty("no ITEM begins so, by its number " + (int) sign, "", sign == ';' ? ";" : sign + "ut 0", 0);
        }
    }

    private static void pressNumbers() {
        String some = "form 1 | form 2 | pane 0 0 0 | pane 0 0 0 | pane 0 0 0";
        stands("1 digit", "", "form 7", 1, "formOf 0 = 7");
        stands("5 digits", "", "form 00007", 1, "formOf 0 = 7");
        stands("5 digits of each NUMBER", some,
                "pane 00006 00009 00008;hang 00003 00001;cold 00040;wet 00009;out 00009", 5, """
            paneOf 3 0 = 6 | paneOf 3 1 = 9 | paneOf 3 2 = 8 | hangs 3 = 1 | status 2 = 40 | status 3 = 9
            status 4 = 9
            """);
        faulty("6 digits", "", "form 000007", 10);
        faulty("6 digits", "", "out 000000", 9);
        faulty("6 digits", "", "pane 0 000000 0", 12);
        faulty("0 digits", "", "form ", 5);
        faulty("0 digits", "", "pane 0  0", 7);
        stands("form N: 0", "", "form 0", 1, "formOf 0 = 0 | status 0 = 1");
        stands("form N: 65535", "", "form 65535", 1, "formOf 0 = 65535");
        faulty("form N: 65536", "", "form 65536", 5);
        faulty("form N: 99999", "", "form 99999", 5);
        stands("pane K: 0", "", "pane 0 0 0", 1,
                "paneOf 0 0 = 0 | paneOf 0 1 = 0 | paneOf 0 2 = 0 | hangs 0 = NONE");
        stands("pane K: 6", "", "pane 6 9 9", 1, "paneOf 0 0 = 6 | paneOf 0 1 = 9 | paneOf 0 2 = 9");
        faulty("pane K: 7", "", "pane 7 0 0", 5);
        faulty("pane R: 10", "", "pane 0 10 0", 7);
        faulty("pane A: 10", "", "pane 0 0 10", 9);
        faulty("pane, the first of two wrong ones", "", "pane 7 10 10", 5);
        faulty("pane, two NUMBERS", "", "pane 0 0", 8);
        faulty("pane, two NUMBERS and a blank", "", "pane 0 0 ", 9);
        faulty("pane, one NUMBER", "", "pane 0;out 0", 6);
        faulty("pane, four NUMBERS", "", "pane 0 0 0 0", 10);
        stands("hang P L: 0 0", some, "hang 0 0", 1, "hangs 0 = 0");
        stands("hang P L: the last", some, "hang 2 1", 1, "hangs 2 = 1");
        faulty("hang P: none such", some, "hang 3 0", 5);
        faulty("hang L: none such", some, "hang 0 2", 7);
        faulty("hang, the first of two wrong ones", some, "hang 3 2", 5);
        faulty("hang, no PANES", "form 1", "hang 0 0", 5);
        faulty("hang, no LETTERS", "pane 0 0 0", "hang 0 0", 7);
        faulty("hang, one NUMBER", some, "hang 0", 6);
        faulty("hang, three NUMBERS", some, "hang 0 0 0", 8);
        stands("hang, of eight", "full", "hang 7 0;hang 0 7", 2, "hangs 7 = 0 | hangs 0 = 7");
        faulty("hang, P of eight", "full", "hang 8 0", 5);
        faulty("hang, L of eight", "full", "hang 0 8", 7);
        stands("cold N: 0", "", "cold 0", 1, "status 2 = 0");
        stands("cold N: 40", "", "cold 40", 1, "status 2 = 40");
        faulty("cold N: 41", "", "cold 41", 5);
        stands("wet N: 0", "", "wet 0", 1, "status 3 = 0");
        stands("wet N: 9", "", "wet 9", 1, "status 3 = 9");
        faulty("wet N: 10", "", "wet 10", 4);
        stands("out N: 0", "", "out 0", 1, "status 4 = 0");
        stands("out N: 9", "", "out 9", 1, "status 4 = 9");
        faulty("out N: 10", "", "out 10", 4);
        faulty("two NUMBERS where one is wanted", "", "cold 1 1", 6);
        faulty("a NUMBER that may not be, ahead of what can't stand", "", "cold 41x", 5);
        faulty("what can't stand in a NUMBER that may be", "", "cold 40x", 7);
        faulty("a sign next to the digits", "", "cold 4/", 6);
        faulty("a sign next to the digits", "", "cold 4:", 6);
        faulty("a later ITEM's NUMBER", "", "cold 40;wet 9;out 10", 18);
    }

    private static void pressRoom() {
        String seven = "form 1 | form 2 | form 3 | form 4 | form 5 | form 6 | form 7\n"
                + "pane 0 0 0 | pane 0 0 0 | pane 0 0 0 | pane 0 0 0 | pane 0 0 0 | pane 0 0 0 | pane 0 0 0\n";
        stands("room for the eighth", seven, "form 9", 1, "formOf 7 = 9 | status 0 = 8");
        stands("room for the eighth", seven, "pane 1 2 3", 1, "paneOf 7 0 = 1 | status 1 = 8");
        stands("room for the eighth of both", seven, "pane 1 2 3;form 9;hang 7 7", 3, "hangs 7 = 7");
        faulty("what there is no room for: its word", seven, "form 9;form 9", 7);
        faulty("what there is no room for: its word", seven, "pane 1 2 3;pane 1 2 3", 11);
        faulty("no room from the beginning", "full", "form 9", 0);
        faulty("no room from the beginning", "full", "pane 0 0 0", 0);
        faulty("no room, after another ITEM", "full", "out 2;form 9", 6);
        faulty("asked when its letters stand whole", "full", "form", 0);
        faulty("asked when its letters stand whole", "full", "pane", 0);
        faulty("asked ahead of the blank", "full", "formx", 0);
        faulty("asked ahead of the NUMBER", "full", "form 65536", 0);
        faulty("asked ahead of the NUMBER", "full", "pane 7 0 0", 0);
        faulty("until then the first element that is not as it is", "full", "forx 9", 3);
        faulty("until then the first element that is not as it is", "full", "pbne 0 0 0", 1);
        faulty("or the number of elements", "full", "for", 3);
        faulty("or the number of elements", "full", "p", 1);
        stands("room is not asked of other words", "full", "hang 1 1;cold 1;wet 1;out 1", 4, "hangs 1 = 1");
        stands("eight of each in one text", "", "form 1;form 1;form 1;form 1;form 1;form 1;form 1;form 1;"
                + "pane 0 0 0;pane 0 0 0;pane 0 0 0;pane 0 0 0;pane 0 0 0;pane 0 0 0;pane 0 0 0;pane 0 0 0", 16,
                "status 0 = 8 | status 1 = 8");
        faulty("nine in one text", "", "form 1;form 1;form 1;form 1;form 1;form 1;form 1;form 1;form 1", 56);
    }

    private static void pressWhole() {
        stands("told over what there is", "scene", "form 0;hang 2 3;cold 1", 3,
                "status 0 = 4 | hangs 2 = 3 | hangs 0 = 0 | status 2 = 1 | status 4 = 3 | status 5 = 2\n"
                + "truth 0 16 = 6");
        stands("what is told ahead counts for what follows", "", "form 1;pane 0 0 0;hang 0 0", 3, "hangs 0 = 0");
        faulty("what is told later doesn't", "", "hang 0 0;form 1;pane 0 0 0", 5);
        faulty("what is told later doesn't", "pane 0 0 0", "hang 0 0;form 1", 7);
        stands("the ICE that there is stays", "form 255 | pane 0 0 0 | hang 0 0 | night",
                "cold 0;form 0;hang 0 1", 3, "truth 0 16 = 255 | status 5 = 0");
        String[] told = {"form 1", "pane 0 0 0", "hang 0 2", "hang 1 0", "cold 40", "wet 9", "out 9"};
        for (String item : told) {
            faulty("or nothing", "scene", item + ";x", item.length() + 1);
        }
        faulty("or nothing", "scene", "form 1;pane 0 0 0;hang 3 3;cold 1;wet 10", 38);
        faulty("a PANE of a text with a FAULT is not there", "scene", "pane 0 0 0;hang 4 0", 16);
        test(17, "after a FAULT a text is told over the street alone", """
            scene
            write 0 0 form 1;pane 0 0 0;x
            press 0 = -6
            write 0 0 hang 3 0
            ! press 0 = -6 | fault = 5
            write 0 0 hang 0 3
            ! press 0 = -6 | fault = 7
            write 0 0 pane 1 1 1;hang 3 2
            press 0 = 2 | hangs 3 = 2 | paneOf 3 0 = 1 | fault = NONE
            """);
    }

    private static void pressRows() {
        test(17, "-1 no such SHELF", """
            scene | ! press 8 = -1 | ! press -1 = -1 | ! press MAX = -1 | ! press MIN = -1 | fault = 0
            """);
        test(17, "-2 a PANE", "scene | ! press 2 = -2 | fault = 0");
        test(17, "-3 NOTHING", "scene | ! press 5 = -3 | ! press 7 = -3 | fault = 0");
        test(17, "-6 a FAULT", "scene | ! press 4 = -6 | ! press 0 = -6 | fault = 0");
        test(17, "the last SHELF", "write 7 0 out 0\npress 7 = 1 | status 4 = 0");
        for (int sort = 0; sort < 4; sort++) {
            test(17, "letters of SORT " + sort,
                    "write 0 " + sort + " form 65535;out 0\npress 0 = 2 | formOf 0 = 65535");
        }
        test(17, "lowest bits: bytes", """
            write 0 0 out 0
            set 0 0 367 | set 0 4 -208 | press 0 = 1 | status 4 = 0
            """);
        test(17, "as ints: no more bits than that", """
            write 0 2 out 0
            set 0 0 65647 | ! press 0 = -6 | fault = 0
            """);
        test(17, "as ints: a digit's", "write 0 1 out 0\nset 0 4 304 | ! press 0 = -6 | fault = 4");
        test(17, "of longs the lowest 32 bits", """
            write 0 3 out 0;wet 1
            set 0 0 4294967407 | set 0 3 4294967328 | set 0 4 4294967344 | set 0 5 4294967355
            set 0 10 -4294967247
            press 0 = 2 | status 4 = 0 | status 3 = 1
            """);
        test(17, "of longs no fewer bits", "write 0 3 out 0\nset 0 0 2147483759 | ! press 0 = -6 | fault = 0");
        test(18, "NONE: none yet", "~ fault = NONE | row 0 0 0 | ~ fault = NONE");
        test(18, "NONE: there was none", "scene | ~ fault = 0\nwrite 5 0 out 1\npress 5 = 1 | ~ fault = NONE");
        test(18, "of the latest press() that came to a ROW", """
            write 0 0 out x
            press 0 = -6 | fault = 4 | press 8 = -1 | fault = 4 | press 5 = -3 | fault = 4
            pane 0 0 0 | show 1 0 | press 1 = -2 | fault = 4 | row 2 0 0 | press 2 = -6 | fault = 0
            """);
    }

    // ---- promises 19 to 25: frost

    private static void melts() {
        test(19, "HOUR h (0 to 23)", """
            scene
            ~ melt 0 0 = 4 | ~ melt 0 23 = 4 | ! melt 0 24 = -6 | ! melt 0 -1 = -6 | ! melt 0 MAX = -6
            ! melt 0 MIN = -6
            """);
        test(19, "-1 no such PANE, before -6", """
            scene
            ~ melt 2 0 = 5 | ! melt 3 0 = -1 | ! melt -1 0 = -1 | ! melt 3 24 = -1 | ! melt -1 -1 = -1
            ! melt MAX 0 = -1
            """);
        int[] thirds = {0, 0, 0, 1, 1, 1, 2, 2, 2, 3};
        for (int kind = 0; kind < 7; kind++) {
            StringBuilder script = new StringBuilder("pane " + kind + " 0 9\n");
            boolean stoved = kind == 3 || kind == 6;
            for (int room = 0; room <= 9; room++) {
                int warmth = stoved ? room : thirds[room];
                script.append("room 0 ").append(room).append(" | ask 2 0 | ~ melt 0 0 = ").append(warmth)
                        .append(" | ask 2 2 | ~ melt 0 0 = ").append(warmth + 2)
                        .append(" | ask 2 9 | ~ melt 0 8 = ").append(warmth + 9).append('\n');
            }
            test(19, "OUT and ROOM by 3 (cut by itself), or ROOM: KIND " + kind, script.toString());
        }
        for (int a = 0; a <= 9; a++) {
            test(19, "SUNNY: 3 more, if h is a at least: a " + a, "pane 4 0 " + a + "\n"
                    + (a > 0 ? "~ melt 0 0 = 1 | ~ melt 0 " + (a - 1) + " = 1\n" : "")
                    + "~ melt 0 " + a + " = 4 | ~ melt 0 23 = 4");
        }
        test(19, "no other KIND is SUNNY", """
            pane 0 0 0 | pane 1 0 0 | pane 2 0 0 | pane 3 0 0 | pane 5 0 0 | pane 6 0 0
            ~ melt 0 23 = 1 | ~ melt 1 23 = 1 | ~ melt 2 23 = 1 | ~ melt 3 23 = 1 | ~ melt 4 23 = 1
            ~ melt 5 23 = 1
            """);
    }

    private static void iceAsked() {
        test(20, "CELL 0 to 15", """
            form 65535 | pane 0 0 0
            ~ ice 0 0 0 0 = 5 | ~ ice 0 0 0 15 = 5 | ! ice 0 0 0 16 = -5 | ! ice 0 0 0 -1 = -5
            ! ice 0 0 0 MAX = -5 | ! ice 0 0 0 MIN = -5
            """);
        test(20, "HOUR 0 to 24", """
            form 65535 | pane 0 0 0 | ask 2 0
            ~ ice 0 0 0 0 = 5 | ~ ice 0 0 24 0 = 5 | ! ice 0 0 25 0 = -6 | ! ice 0 0 -1 0 = -6
            ! ice 0 0 MAX 0 = -6 | ! ice 0 0 MIN 0 = -6
            """);
        test(20, "a LETTER (NONE: nothing)", """
            scene
            ~ ice 2 NONE 0 0 = 0 | ~ ice 2 0 0 0 = 4 | ~ ice 2 2 0 11 = 4
            ! ice 2 3 0 0 = -1 | ! ice 2 -2 0 0 = -1 | ! ice 2 MAX 0 0 = -1 | ! ice 2 MIN 0 0 = -1
            """);
        test(20, "a PANE", """
            scene | ~ ice 0 0 0 0 = 5 | ! ice 3 0 0 0 = -1 | ! ice -1 0 0 0 = -1 | ! ice 3 NONE 0 0 = -1
            ! ice MAX 0 0 0 = -1
            """);
        test(20, "-1 before -5 before -6", """
            scene | ! ice 3 0 25 16 = -1 | ! ice 0 3 25 16 = -1 | ! ice 0 -2 -1 0 = -1
            ! ice 0 0 25 16 = -5 | ! ice 0 0 -1 -1 = -5
            """);
        test(20, "in thought: not as it is in truth", """
            scene | ~ ice 0 0 0 5 = 0 | ~ ice 0 0 0 0 = 5 | truth 0 0 = 0 | ~ ice 2 2 0 0 = 4
            truth 2 0 = 0
            """);
    }

    private static void icePatterns() {
        test(20, "SHARP, 20 at most", """
            form 1 | pane 1 0 1 | pane 1 0 2 | pane 1 0 3 | pane 1 0 9 | ask 0 40 | ask 1 9
            ~ ice 0 0 0 0 = 19 | ~ ice 1 0 0 0 = 20 | ~ ice 2 0 0 0 = 20 | ~ ice 3 0 0 0 = 20
            ~ paneOf 0 3 = 19 | ~ paneOf 1 3 = 20 | ~ paneOf 2 3 = 21 | ~ paneOf 3 3 = 27
            hang 3 0 | night | truth 3 0 = 20
            """);
        StringBuilder cells = new StringBuilder("pane 0 0 0\nform 32768\n");
        for (int cell = 0; cell < 16; cell++) {
            cells.append("image | write 7 0 form ").append(1 << cell).append("\npress 7 = 1\n")
                    .append("shape 0 1 0 = ").append(1 << cell)
                    .append(" | ice 0 1 0 ").append(cell).append(" = 5\nrestore = 1\n");
        }
        test(20, "each CELL of the PATTERN alone", cells.toString());
        for (int kind = 0; kind < 7; kind++) {
            int all = kind == 6 ? 0x0FFF : 65535;
            int none = kind == 5 ? 0x000F : 0;
            int last = kind == 6 ? 0 : kind == 5 ? 0xF00F : 0xF000;
            test(21, "PATTERN of KIND " + kind, "form 65535 | form 0 | form 0xF000 | pane " + kind + " 0 0\n"
                    + "~ shape 0 0 0 = " + all + " | ~ shape 0 1 0 = " + none + " | ~ shape 0 NONE 0 = " + none
                    + " | ~ shape 0 2 0 = " + last);
        }
        for (int a = 0; a <= 9; a++) {
            test(21, "LACE: all CELLS of row (a modulo 4), a " + a,
                    "pane 5 0 " + a + " | ~ shape 0 NONE 0 = " + (15 << 4 * (a % 4)));
        }
        test(20, "SHARP 0 is no ICE", """
            form 65535 | pane 5 0 9 | ask 0 0 | ~ shape 0 0 0 = 0 | ~ ice 0 0 0 0 = 0 | ask 0 4
            ~ ice 0 0 0 0 = 10
            """);
        test(20, "a scratched CELL: 0", """
            form 65535 | pane 0 0 0 | scratch 0 0 | scratch 0 15 | ~ ice 0 0 0 0 = 0 | ~ ice 0 0 0 15 = 0
            ~ ice 0 0 0 1 = 5 | ~ shape 0 0 0 = 32766
            """);
    }

    /** ICE of one CELL with one form, by WET 6 and SHARP 9 on a PANE. */
    private static void beside(String sentence, int form, int cell, int ice) {
        test(20, sentence + ": form " + form + ", CELL " + cell,
                "form " + form + " | pane 0 0 0 | ask 0 30 | ask 1 6 | ~ ice 0 0 0 " + cell + " = " + ice);
    }

    private static void iceBeside() {
        for (int form : new int[] {0x052, 0x212, 0x242, 0x250, 0x252}) {
            beside("3 at least of the CELLS beside it", form, 5, 4);
        }
        for (int form : new int[] {0x012, 0x042, 0x202, 0x050, 0x210, 0x240, 0x002, 0, 0x405, 0x505}) {
            beside("2 of the CELLS beside it", form, 5, 0);
        }
        beside("three at the edge above", 0x0025, 1, 4);
        beside("three at the left edge", 0x0121, 4, 4);
        beside("three at the right edge", 0x0848, 7, 4);
        beside("three at the edge below", 0x5200, 13, 4);
        beside("a corner has two", 0x0012, 0, 0);
        beside("left of column 0 isn't the row above", 0x0109, 4, 0);
        beside("left of column 0 isn't the row above", 0x2900, 12, 0);
        beside("right of column 3 isn't the row below", 0x0094, 3, 0);
        beside("right of column 3 isn't the row below", 0x0908, 7, 0);
        beside("above row 0 isn't row 3", 0x2025 & ~4, 1, 0);
        beside("below row 3 isn't row 0", 0x5002, 13, 0);
        beside("of the PATTERN itself: all of it", 0x0072, 5, 9);
        String three = "form 0x052 | pane 0 0 0\n";
        test(20, "WET is 6 at least", three + """
            ask 0 30 | ask 1 5 | ~ ice 0 0 0 5 = 0 | ask 1 6 | ~ ice 0 0 0 5 = 4 | ask 1 7 | ~ ice 0 0 0 5 = 5
            ask 1 9 | ~ ice 0 0 0 5 = 6 | ask 1 0 | ~ ice 0 0 0 5 = 0
            """);
        test(20, "half of that (cut)", three + """
            ask 1 6 | ask 0 3 | ~ ice 0 0 0 5 = 0 | ~ shape 0 0 0 = 0 | ask 0 4 | ~ ice 0 0 0 4 = 1
            ~ ice 0 0 0 5 = 0
            ~ shape 0 0 0 = 0x52 | ask 0 7 | ~ ice 0 0 0 4 = 2 | ~ ice 0 0 0 5 = 1 | ~ shape 0 0 0 = 0x72
            ask 0 10 | ~ ice 0 0 0 4 = 3 | ~ ice 0 0 0 5 = 1
            """);
        test(20, "half of SHARP held at 20", """
            form 0x052 | pane 1 0 9 | pane 1 0 1 | ask 0 40 | ask 1 9 | ~ ice 0 0 0 5 = 10
            ~ ice 1 0 0 5 = 9
            """);
        test(20, "a scratched CELL beside three", three + """
            ask 1 6 | scratch 0 5 | ~ ice 0 0 0 5 = 0 | ~ shape 0 0 0 = 0x52
            """);
        test(20, "beside scratched ones, which are of the PATTERN", three + """
            ask 1 6 | scratch 0 1 | scratch 0 4 | scratch 0 6 | ~ ice 0 0 0 5 = 3 | ~ shape 0 0 0 = 0x20
            """);
        test(20, "SMOKED: not in row 3, nor by it", """
            form 0x5200 | form 0x2120 | form 0x0121 | pane 6 0 0 | pane 0 0 0 | ask 1 6
            ~ ice 0 0 0 13 = 0 | ~ ice 1 0 0 13 = 3 | ~ shape 0 0 0 = 0x0200
            ~ ice 0 1 0 9 = 0 | ~ ice 1 1 0 9 = 3 | ~ ice 0 2 0 4 = 3
            """);
        test(20, "LACE: by the CELLS of its row", """
            form 0x0050 | pane 5 0 0 | ask 1 6 | ~ ice 0 0 0 5 = 3 | ~ ice 0 0 0 4 = 6
            ~ ice 0 NONE 0 5 = 0
            """);
        test(20, "half ICE makes no more of it", """
            form 0x0A52 | pane 0 0 0 | ask 1 6 | ~ ice 0 0 0 5 = 3 | ~ ice 0 0 0 10 = 3 | ~ ice 0 0 0 7 = 0
            """);
    }

    private static void iceMelting() {
        test(20, "0 at least", """
            form 1 | pane 0 0 0 | ~ ice 0 0 0 0 = 5 | ~ ice 0 0 1 0 = 3 | ~ ice 0 0 2 0 = 1
            ~ ice 0 0 3 0 = 0 | ~ ice 0 0 4 0 = 0 | ~ ice 0 0 24 0 = 0
            """);
        test(20, "1 more, if MELT isn't 0", """
            form 1 | pane 0 2 0 | ask 2 0 | ~ ice 0 0 24 0 = 5 | room 0 3 | ~ ice 0 0 1 0 = 3
            """);
        test(20, "1 more in all if one or both sides have none", """
            form 0x2 | form 0x6 | form 0xE | pane 0 0 0
            ~ ice 0 0 1 1 = 3 | ~ ice 0 1 1 1 = 3 | ~ ice 0 1 1 2 = 3 | ~ ice 0 2 1 1 = 3
            ~ ice 0 2 1 2 = 4 | ~ ice 0 2 1 3 = 3
            """);
        test(20, "or isn't there: columns 0 and 3", """
            form 65535 | pane 0 0 0
            ~ ice 0 0 1 0 = 3 | ~ ice 0 0 1 1 = 4 | ~ ice 0 0 1 2 = 4 | ~ ice 0 0 1 3 = 3 | ~ ice 0 0 1 4 = 3
            ~ ice 0 0 1 7 = 3 | ~ ice 0 0 1 8 = 3 | ~ ice 0 0 1 11 = 3 | ~ ice 0 0 1 12 = 3 | ~ ice 0 0 1 13 = 4
            ~ ice 0 0 1 14 = 4 | ~ ice 0 0 1 15 = 3
            """);
        test(20, "above and below don't count", """
            form 0x4E44 | pane 0 0 0 | ~ ice 0 0 1 10 = 4 | ~ ice 0 0 1 6 = 3 | ~ ice 0 0 1 14 = 3
            """);
        test(20, "at its beginning", """
            form 15 | pane 0 0 0 | ask 0 8 | ~ ice 0 0 0 1 = 2 | ~ ice 0 0 1 0 = 0 | ~ ice 0 0 1 1 = 1
            ~ ice 0 0 1 2 = 1 | ~ ice 0 0 2 1 = 0
            """);
        test(20, "in truth at its beginning", """
            form 15 | pane 0 0 0 | hang 0 0 | ask 0 8 | night | hours 1 | truth 0 0 = 0 | truth 0 1 = 1
            truth 0 2 = 1 | hours 1 | truth 0 16 = 0
            """);
        test(20, "a scratched side has no ICE", """
            form 15 | pane 0 0 0 | scratch 0 0 | ~ ice 0 0 1 1 = 3 | ~ ice 0 0 1 2 = 4
            """);
        test(20, "SUNNY from HOUR a on", """
            form 1 | pane 4 0 2 | ask 2 0 | ~ ice 0 0 2 0 = 5 | ~ ice 0 0 3 0 = 1 | ~ ice 0 0 4 0 = 0
            """);
        test(20, "SUNNY from HOUR 0 on", """
            form 1 | pane 4 0 0 | ask 2 0 | ~ ice 0 0 0 0 = 5 | ~ ice 0 0 1 0 = 1
            """);
        test(20, "SUNNY from HOUR 9 on", """
            form 1 | pane 4 0 9 | ask 2 0 | ~ ice 0 0 9 0 = 5 | ~ ice 0 0 10 0 = 1
            """);
        test(20, "the most MELT", """
            form 65535 | pane 3 9 0 | ask 2 9 | ask 0 40 | ask 1 9 | ~ ice 0 0 0 1 = 18 | ~ ice 0 0 1 1 = 0
            pane 1 9 9 | ~ ice 1 0 1 1 = 8 | ~ ice 1 0 1 0 = 7
            """);
    }

    private static void shapes() {
        test(21, "HOUR 0 to 24", """
            form 65535 | pane 0 0 0 | ask 2 0
            ~ shape 0 0 0 = 65535 | ~ shape 0 0 24 = 65535 | ! shape 0 0 25 = -6 | ! shape 0 0 -1 = -6
            ! shape 0 0 MAX = -6 | ! shape 0 0 MIN = -6
            """);
        test(21, "-1 no such PANE, LETTER", """
            scene
            ~ shape 2 2 0 = 3855 | ~ shape 2 NONE 0 = 0 | ! shape 3 2 0 = -1 | ! shape -1 2 0 = -1
            ! shape 2 3 0 = -1
            ! shape 2 -2 0 = -1 | ! shape MAX 0 0 = -1 | ! shape 0 MAX 0 = -1 | ! shape MIN 0 0 = -1
            ! shape 0 MIN 0 = -1
            """);
        test(21, "-1 before -6", "scene | ! shape 3 0 25 = -1 | ! shape 0 3 -1 = -1 | ! shape 0 -2 25 = -1");
        test(21, "the last HOUR with ICE", "form 1 | pane 0 0 0 | ~ shape 0 0 2 = 1 | ~ shape 0 0 3 = 0");
        test(21, "eight LETTERS and PANES", """
            full | ~ shape 0 7 0 = 65535 | ~ shape 7 0 0 = 1 | ! shape 8 0 0 = -1 | ! shape 0 8 0 = -1
            """);
    }

    private static void reads() {
        test(22, "-16 not 0 to 65535 (counted as -6)", """
            scene
            ~ reads 0 = NONE | ~ reads 65535 = NONE | ! reads 65536 = -16 | ! reads -1 = -16
            ! reads MAX = -16 | ! reads MIN = -16
            """);
        test(22, "NONE: no LETTERS", "~ reads 0 = NONE | ~ reads 65535 = NONE | status 16 = 0");
        test(22, "0 and 65535 themselves", "form 65535 | form 0 | ~ reads 0 = 1 | ~ reads 65535 = 0");
        test(22, "these are 4 at most", """
            form 0x000F | ~ reads 0x000F = 0 | ~ reads 0x0000 = 0 | ~ reads 0x00FF = 0 | ~ reads 0x0FFF = NONE
            ~ reads 0x01FF = NONE | ~ reads 0x8000 = NONE | ~ reads 0x8001 = 0
            """);
        test(22, "no other LETTER has as few", """
            form 0x0003 | form 0x000C | ~ reads 0x000F = NONE | ~ reads 0x0000 = NONE | ~ reads 0x0007 = 0
            ~ reads 0x000E = 1
            ~ reads 0x0005 = NONE | ~ reads 0x0003 = 0
            """);
        test(22, "two alike", "form 5 | form 5 | ~ reads 5 = NONE | ~ reads 4 = NONE");
        test(22, "others that have as few, but more than the fewest, don't count", """
            form 0x000E | form 0x0003 | form 0x000C | ~ reads 0x000F = 0 | form 0x000D | ~ reads 0x000F = NONE
            form 0x000F | ~ reads 0x000F = 4
            """);
        test(22, "the nearest one comes last", """
            form 0 | form 0x0003 | form 0x000C | ~ reads 0x000F = NONE | form 0x0007 | ~ reads 0x000F = 3
            """);
        test(22, "of eight LETTERS", """
            full | ~ reads 65535 = 7 | ~ reads 0xFFFE = 7 | ~ reads 1 = 0 | ~ reads 0 = NONE
            ~ reads 0x00FF = NONE
            """);
        test(23, "-11 no such PANE, LETTER", """
            scene
            ~ readsAs 2 2 0 = 2 | ~ readsAs 2 NONE 0 = NONE | ! readsAs 3 2 0 = -11 | ! readsAs -1 2 0 = -11
            ! readsAs 2 3 0 = -11 | ! readsAs 2 -2 0 = -11 | ! readsAs MAX 0 0 = -11 | ! readsAs 0 MIN 0 = -11
            """);
        test(23, "-16 h", """
            scene
            ~ readsAs 0 0 0 = 0 | ~ readsAs 0 0 24 = NONE | ! readsAs 0 0 25 = -16 | ! readsAs 0 0 -1 = -16
            ! readsAs 0 NONE MAX = -16 | ! readsAs 0 0 MIN = -16
            """);
        test(23, "-11 before -16", """
            scene | ! readsAs 3 0 25 = -11 | ! readsAs 0 3 -1 = -11 | ! readsAs 0 -2 25 = -11
            """);
        test(23, "at HOUR 24", """
            form 255 | pane 0 0 0 | ask 2 0 | ~ readsAs 0 0 24 = 0 | form 0 | ask 2 1 | ~ readsAs 0 0 24 = 1
            """);
        test(23, "NONE: nothing", """
            form 15 | pane 0 0 0 | pane 5 0 0 | pane 5 0 1 | ~ readsAs 0 NONE 0 = 0 | ~ readsAs 1 NONE 0 = 0
            ~ readsAs 2 NONE 0 = NONE
            """);
    }

    private static void lasts() {
        test(24, "HOURS 0 to h", GAP + """
            ~ readsAs 0 0 3 = 0 | ~ readsAs 0 0 4 = 1 | ~ readsAs 0 0 5 = 1 | ~ readsAs 0 0 6 = 0
            ~ readsAs 0 0 24 = 0 | ~ lasts 0 0 = 3
            """);
        test(24, "NONE: not at 0, though later", """
            form 0 | form 0x0F00 | pane 5 0 2 | ~ readsAs 0 0 0 = 1 | ~ readsAs 0 0 24 = 0
            ~ lasts 0 0 = NONE
            """);
        test(24, "NONE: never", "form 255 | pane 0 0 0 | ask 0 0 | ~ lasts 0 0 = NONE");
        test(24, "0: at 0 alone", "form 255 | pane 3 9 0 | ~ lasts 0 0 = 0");
        test(24, "24: at all HOURS", "form 255 | pane 0 0 0 | ask 2 0 | ~ lasts 0 0 = 24");
        test(24, "-11 (counted as -1)", """
            scene
            ~ lasts 2 2 = 0 | ! lasts 3 0 = -11 | ! lasts -1 0 = -11 | ! lasts 0 3 = -11
            ! lasts 0 -2 = -11 | ! lasts 0 NONE = -11
            ! lasts MAX 0 = -11 | ! lasts MIN 0 = -11 | ! lasts 0 MAX = -11 | ! lasts 0 MIN = -11
            """);
    }

    private static void pages() {
        test(25, "HOUR h (0 to 24)", """
            scene | ~ page 0 = 5 | ~ page 24 = 0 | ! page 25 = -6 | ! page -1 = -6 | ! page MAX = -6
            ! page MIN = -6
            """);
        test(25, "HOUR by HOUR", GAP + """
            ~ page 0 = 1 | ~ page 3 = 1 | ~ page 4 = 0 | ~ page 5 = 0 | ~ page 6 = 1 | ~ page 24 = 1
            """);
        test(25, "nothing HANGS and nothing is READ", """
            form 255 | pane 0 0 0 | ~ readsAs 0 NONE 0 = NONE | ~ page 0 = 0
            """);
        test(25, "nothing HANGS, though it's READ", """
            form 1 | pane 0 0 0 | ~ readsAs 0 NONE 0 = 0 | ~ page 0 = 0 | hang 0 0 | ~ page 0 = 1
            """);
        test(25, "no LETTERS", "pane 0 0 0 | ~ page 0 = 0");
        test(25, "the last of eight alone", eight("form 255", "") + "hang 7 0 | ~ page 0 = 128");
        test(25, "all eight", eight("form 255 | ask 2 0", "hang") + "~ page 0 = 255 | ~ page 24 = 255");
    }

    /** Eight PANES, with LETTER 0 behind each, if it's to hang. */
    private static String eight(String before, String hang) {
        StringBuilder script = new StringBuilder(before).append('\n');
        for (int i = 0; i < 8; i++) {
            script.append("pane 0 0 0\n").append(hang.isEmpty() ? "" : "hang " + i + " 0\n");
        }
        return script.toString();
    }

    // ---- promises 26 to 36: what comes of it

    private static void prints() {
        // Nothing is left behind the STOVED ones at HOUR 1.
        String street = "form 255 | form 65280 | pane 3 9 0 | pane 0 0 0 | pane 3 9 0 | pane 0 0 0 | row 5 0 0\n";
        test(26, "-1 no such SHELF", """
            scene | ! prints 8 0 0 NONE = -1 | ! prints -1 0 0 NONE = -1 | ! prints MAX -1 25 -2 = -1
            ! prints MIN -1 25 -2 = -1
            """);
        test(26, "-2 a PANE", "scene | ! prints 2 0 0 NONE = -2 | ! prints 2 -1 25 -2 = -2");
        test(26, "-3 NOTHING", "scene | ! prints 5 0 0 NONE = -3 | ! prints 5 -1 25 -2 = -3");
        test(26, "-4 n below 0", """
            scene | ! prints 0 -1 0 NONE = -4 | ! prints 0 MIN 25 -2 = -4 | ! prints 0 -1 0 0 = -4
            """);
        test(26, "-5 fewer elements", """
            scene | ! prints 1 3 0 NONE = -5 | ! prints 1 MAX 0 NONE = -5 | ! prints 1 3 25 0 = -5
            ~ prints 1 2 0 NONE = 2
            """);
        test(26, "-5 no such i", """
            scene
            ~ prints 1 2 0 0 = 0 | ~ prints 1 2 0 1 = 1 | ! prints 1 2 0 2 = -5 | ! prints 1 2 0 -2 = -5
            ! prints 1 2 0 MAX = -5 | ! prints 1 2 0 MIN = -5 | ! prints 1 2 25 2 = -5 | ! prints 0 3 0 3 = -5
            """);
        test(26, "-6 h", """
            scene | ~ prints 1 2 24 NONE = 0 | ! prints 1 2 25 NONE = -6 | ! prints 1 2 -1 NONE = -6
            ! prints 1 2 MAX 0 = -6 | ! prints 1 0 25 NONE = -6
            """);
        test(26, "-6 no LETTERS", """
            scene
            ! prints 0 3 0 NONE = -6 | ! prints 0 3 0 0 = -6 | set 0 2 2 | ~ prints 0 3 0 NONE = 3
            set 0 2 3 | ! prints 0 3 0 NONE = -6
            ~ prints 0 2 0 NONE = 2 | set 0 0 3 | ! prints 0 2 0 NONE = -6 | ! prints 0 1 0 NONE = -6
            ~ prints 0 0 0 NONE = 0
            """);
        test(26, "-7 more than there are PANES", street + """
            word 0 0 0 0 0 0
            ~ prints 0 4 0 NONE = 4 | ! prints 0 5 0 NONE = -7 | ! prints 0 5 0 4 = -7
            ! prints 0 5 0 5 = -5 | ! prints 0 5 25 0 = -6
            set 0 4 2 | ! prints 0 5 0 NONE = -6 | ~ prints 0 4 0 NONE = 4
            """);
        test(26, "-7 no PANES", "form 1 | word 0 0\n! prints 0 1 0 NONE = -7 | ~ prints 0 0 0 NONE = 0");
        test(26, "PRINTS of n 0 is 0", """
            row 0 0 0 | ~ prints 0 0 0 NONE = 0 | ~ prints 0 0 24 NONE = 0 | ! prints 0 0 0 0 = -5
            ! prints 0 0 25 NONE = -6
            """);
        test(26, "n 0 of a ROW that has more", street + """
            word 0 9 9
            ~ prints 0 0 0 NONE = 0 | ! prints 0 0 0 0 = -5
            """);
        test(26, "of several the first: all alike", street + """
            word 0 0 1
            ~ prints 0 2 0 NONE = 2 | ~ prints 0 2 0 0 = 0 | ~ prints 0 2 0 1 = 1
            """);
        test(26, "of several the first: none right", street + """
            word 0 0 1
            ~ prints 0 2 24 NONE = 0 | ~ prints 0 2 24 0 = 0 | ~ prints 0 2 24 1 = 1
            """);
        test(26, "of several the first: none right, a WORD of one", street + """
            word 0 1
            ~ prints 0 1 24 NONE = 0 | ~ prints 0 1 24 0 = 0
            """);
        test(26, "of several the first: none right, on eight PANES", eight("form 255", "") + """
            word 0 0 0 0 0 0 0 0 0
            ~ prints 0 1 24 0 = 0 | ~ prints 0 7 24 0 = 0 | ~ prints 0 7 24 6 = 6 | ~ prints 0 8 24 7 = 7
            """);
        test(26, "of several the first: the first of its PANES", street + """
            word 0 0
            ~ prints 0 1 1 NONE = 1 | ~ prints 0 1 1 0 = 1
            """);
        test(26, "most of them", street + """
            word 0 0 1
            ~ prints 0 2 1 NONE = 2 | ~ prints 0 2 1 0 = 1 | ~ prints 0 2 1 1 = 3
            """);
        test(26, "the second counts where the first is the same", street + """
            word 0 0 1 0
            ~ prints 0 3 1 NONE = 2 | ~ prints 0 3 1 0 = 0 | ~ prints 0 3 1 1 = 1 | ~ prints 0 3 1 2 = 3
            """);
        test(26, "all PANES", street + """
            word 0 0 1 0 1
            ~ prints 0 4 1 NONE = 2 | ~ prints 0 4 1 0 = 0 | ~ prints 0 4 1 3 = 3
            """);
        test(26, "by h, not by the HOURS ahead", GAP + """
            word 0 0
            ~ prints 0 1 3 NONE = 1 | ~ prints 0 1 4 NONE = 0 | ~ prints 0 1 5 NONE = 0
            ~ prints 0 1 6 NONE = 1 | ~ prints 0 1 24 NONE = 1
            """);
        test(26, "the last of eight PANES", "form 255\n" + "pane 3 9 0\n".repeat(7) + """
            pane 0 0 0 | word 0 0 0 0 0 0 0 0 0
            ~ prints 0 1 1 NONE = 1 | ~ prints 0 1 1 0 = 7 | ~ prints 0 7 1 NONE = 1 | ~ prints 0 7 1 0 = 0
            ~ prints 0 7 1 5 = 5
            ~ prints 0 7 1 6 = 7 | ~ prints 0 8 1 NONE = 1 | ~ prints 0 8 1 0 = 0 | ~ prints 0 8 1 7 = 7
            ~ prints 0 8 0 NONE = 8
            """);
        test(26, "the last of eight LETTERS", """
            full | word 0 7
            ~ prints 0 1 0 NONE = 1 | ~ prints 0 1 0 0 = 0 | set 0 0 8 | ! prints 0 1 0 NONE = -6
            set 0 0 -1 | ! prints 0 1 0 NONE = -6
            """);
        test(26, "of longs the lowest 32 bits", """
            form 1 | form 2 | pane 0 0 0 | row 0 3 1 | set 0 0 4294967297 | ~ prints 0 1 0 NONE = 1
            set 0 0 2147483649 | ! prints 0 1 0 NONE = -6
            """);
        test(26, "what HANGS there doesn't count", """
            form 255 | form 65280 | pane 0 0 0 | hang 0 0 | word 0 1
            ~ prints 0 1 0 NONE = 1 | hangs 0 = 0
            """);
    }

    private static void becomes() {
        test(27, "-1 no such LETTER", """
            scene | ~ becomes 2 = 0 | ! becomes 3 = -1 | ! becomes -1 = -1 | ! becomes MAX = -1
            ! becomes MIN = -1
            """);
        test(27, "but itself", "form 255 | pane 0 0 0 | ask 2 0 | ~ becomes 0 = 0");
        test(27, "no PANES", "form 255 | form 0 | ~ becomes 0 = 0");
        test(27, "at HOUR 0 alone", """
            form 0x0F00 | form 0x0F0F | pane 5 9 0 | ask 2 9 | ~ readsAs 0 0 0 = 1 | ~ readsAs 0 0 1 = 0
            ~ becomes 0 = 2
            """);
        test(27, "at the last HOURS alone", LATE + """
            ~ readsAs 0 0 14 = NONE | ~ readsAs 0 0 15 = 1 | ~ becomes 0 = 2 | ~ becomes 1 = 0
            """);
        test(27, "on the last of eight PANES alone", "form 255 | form 0 | ask 2 0\n" + "pane 0 0 0\n".repeat(7)
                + "pane 3 9 0 | ~ becomes 0 = 2");
        test(27, "as the last of eight LETTERS", FAR + """
            form 0x0066 | pane 0 0 0 | ~ becomes 0 = 128 | ~ becomes 7 = 0
            """);
        test(27, "as the first of its LETTERS", """
            form 0x0066 | form 255 | pane 0 0 0 | ~ becomes 1 = 1 | ~ becomes 0 = 0
            """);
        test(27, "what HANGS there doesn't count", """
            form 255 | form 0 | pane 0 0 0 | hang 0 1 | ~ becomes 0 = 2 | ~ becomes 1 = 0 | hangs 0 = 1
            """);
    }

    /** ICE 20 with MELT 1: the outer CELLS are gone at HOUR 10, the inner ones at 15. */
    private static final String LATE = "form 255 | form 0 | pane 1 0 9 | ask 0 40 | ask 1 9 | hang 0 0\n";

    /** Seven LETTERS far from one another. */
    private static final String FAR = """
        form 0x00FF | form 0xFF00 | form 0xF0F0 | form 0xFFF0 | form 0xFFFF | form 0xCCCC | form 0xAAAA
        """;

    private static void turns() {
        test(28, "-11 (counted as -1)", """
            scene
            ! turns 3 0 1 = -11 | ! turns -1 0 1 = -11 | ! turns 0 3 1 = -11 | ! turns 0 NONE 1 = -11
            ! turns 0 -2 1 = -11
            ! turns 0 0 3 = -11 | ! turns 0 0 NONE = -11 | ! turns 0 0 -2 = -11 | ! turns MAX 0 1 = -11
            ! turns 0 MIN 1 = -11
            ! turns 0 0 MAX = -11 | ~ turns 2 2 0 = NONE
            """);
        test(28, "at HOUR 0", "form 0x0F00 | form 0x0F0F | pane 5 9 0 | ~ turns 0 0 1 = 0");
        test(28, "the first of its HOURS", GAP + "~ turns 0 0 1 = 4");
        test(28, "at the last HOURS alone", LATE + "~ turns 0 0 1 = 15 | ~ lasts 0 0 = 9");
        test(28, "NONE: never", """
            form 255 | form 0 | pane 0 0 0 | ask 2 0 | ~ turns 0 0 1 = NONE | ask 2 1 | ~ turns 0 1 0 = NONE
            """);
        test(28, "eight LETTERS and PANES", FAR + "form 0x0066\n" + "pane 0 0 0\n".repeat(8)
                + "~ turns 7 0 7 = 3 | ! turns 8 0 7 = -11 | ! turns 7 0 8 = -11 | ! turns 7 8 0 = -11");
    }

    private static void could() {
        test(29, "-1 no such PANE", """
            scene | ~ could 2 3855 0 = 4 | ! could 3 0 0 = -1 | ! could -1 0 0 = -1 | ! could MAX 0 0 = -1
            ! could MIN 0 0 = -1
            """);
        test(29, "-6 SHAPE", """
            form 65535 | pane 0 0 0 | ~ could 0 65535 0 = 1 | ~ could 0 0 0 = 256 | ! could 0 65536 0 = -6
            ! could 0 -1 0 = -6 | ! could 0 MAX 0 = -6 | ! could 0 MIN 0 = -6
            """);
        test(29, "-6 h", """
            form 65535 | pane 0 0 0 | ask 2 0 | ~ could 0 65535 24 = 1 | ! could 0 0 25 = -6
            ! could 0 0 -1 = -6 | ! could 0 0 MAX = -6 | ! could 0 0 MIN = -6
            """);
        test(29, "-1 before -6", "scene | ! could 3 65536 0 = -1 | ! could -1 0 25 = -1");
        test(29, "bit 8: with nothing", """
            pane 0 0 0 | ~ could 0 0 0 = 256 | ~ could 0 1 0 = 0 | pane 5 0 3 | ~ could 1 0xF000 0 = 256
            ~ could 1 0 0 = 0
            """);
        test(29, "all eight and nothing", """
            full | ask 0 0 | ~ could 0 0 0 = 511 | ask 0 20 | ~ could 0 65535 0 = 128 | ~ could 0 1 0 = 1
            """);
        test(29, "just that SHAPE, not what is READ", """
            form 255 | pane 0 0 0 | ~ could 0 254 0 = 0 | ~ could 0 255 0 = 1 | ~ could 0 255 2 = 1
            ~ could 0 0x66 3 = 1 | ~ could 0 255 3 = 0
            """);
        test(29, "the HOUR at which it is gone", """
            form 1 | pane 0 0 0 | ~ could 0 1 2 = 1 | ~ could 0 0 2 = 256 | ~ could 0 0 3 = 257
            """);
    }

    private static void likeness() {
        test(30, "in no CELL, in all", """
            form 0 | form 65535 | form 0 | ~ unlike 0 1 = 16 | ~ unlike 1 0 = 16 | ~ unlike 0 2 = 0
            ~ unlike 1 1 = 0
            """);
        test(30, "the first and the last CELL", """
            form 0 | form 1 | form 32768 | ~ unlike 0 1 = 1 | ~ unlike 0 2 = 1 | ~ unlike 1 2 = 2
            """);
        test(30, "-1 no such LETTER", """
            scene
            ~ unlike 2 0 = 8 | ! unlike 3 0 = -1 | ! unlike 0 3 = -1 | ! unlike -1 0 = -1 | ! unlike 0 -1 = -1
            ! unlike MAX 0 = -1 | ! unlike 0 MIN = -1
            """);
        test(30, "of eight", "full | ~ unlike 7 0 = 15 | ! unlike 8 0 = -1 | ! unlike 0 8 = -1");
        test(31, "-5 fewer than two LETTERS", """
            ! closest = -5 | form 1 | ! closest = -5 | form 65535 | ~ closest = 1
            """);
        test(31, "16 CELLS, none", """
            form 0 | form 65535 | ~ closest = 1 | form 65535 | ~ closest = 12 | form 0 | ~ closest = 3
            """);
        test(31, "of several the first", """
            form 0 | form 3 | form 5 | form 6 | ~ closest = 1 | form 0 | ~ closest = 4
            """);
        test(31, "of several the first: by the lesser", """
            form 0x000F | form 0x0F00 | form 0x0F01 | form 0x000E | ~ closest = 3 | form 0x0F00
            ~ closest = 14
            """);
        test(31, "the last two of eight", FAR + "form 0xAAA8 | ~ closest = 67");
        test(31, "the first and the last of eight", FAR + "form 0x00FE | ~ closest = 7");
    }

    private static void mends() {
        test(32, "-1 no such LETTER, before -5", """
            form 5 | ! mend 1 = -1 | ! mend -1 = -1 | ! mend MAX = -1 | ! mend MIN = -1
            """);
        test(32, "-1 no LETTERS", "! mend 0 = -1");
        test(32, "-5 there is no other", "form 5 | ! mend 0 = -5 | form 5 | ~ mend 0 = 0");
        test(32, "the last CELL", "form 0 | form 0x7FFF | ~ mend 0 = 15 | ~ mend 1 = 15");
        test(32, "the first CELL by which they are most", """
            form 0 | form 0x0003 | ~ mend 0 = 2 | ~ mend 1 = 2 | form 0x8000 | ~ mend 0 = 2
            """);
        test(32, "also if no better than now", "form 0 | form 65535 | ~ mend 0 = 0 | ~ mend 1 = 0");
        test(32, "the fewest of several others", """
            form 0x0000 | form 0x0001 | form 0x0006 | ~ mend 0 = 3 | ~ mend 1 = 1 | form 0xFFF0
            ~ mend 2 = 3
            """);
        test(32, "there or not: a CELL taken away", """
            form 0x0001 | form 0x0000 | form 0xFFFE | ~ mend 0 = 1 | form 0x0003 | ~ mend 1 = 2
            """);
        test(32, "of eight", "full | ~ mend 7 = 0 | ! mend 8 = -1");
        test(32, "nothing is changed", "scene | ~ mend 0 = 0 | formOf 0 = 255");
    }

    private static void stoves() {
        String refused = """
            scene
            ! %1$s 3 0 0 = -11 | ! %1$s -1 0 0 = -11 | ! %1$s 0 3 0 = -11 | ! %1$s 0 NONE 0 = -11
            ! %1$s 0 -2 0 = -11
            ! %1$s MAX 0 0 = -11 | ! %1$s 0 MIN 0 = -11 | ! %1$s 3 0 25 = -11 | ! %1$s 0 NONE -1 = -11
            ! %1$s 0 0 25 = -16 | ! %1$s 0 0 -1 = -16 | ! %1$s 0 0 MAX = -16 | ! %1$s 0 0 MIN = -16
            ~ %1$s 0 0 24 = NONE
            """;
        test(33, "-11; -16 (counted as -1, -6)", refused.formatted("stove"));
        test(34, "-11; -16 (counted as -1, -6)", refused.formatted("chill"));
        test(33, "the greatest ROOM: 9", "form 255 | pane 0 0 0 | ~ stove 0 0 0 = 9 | paneOf 0 1 = 0");
        test(33, "the greatest ROOM: 0", """
            form 255 | form 0x0066 | pane 3 9 0 | ~ stove 0 0 2 = 0 | ~ stove 0 0 1 = 2 | paneOf 0 1 = 9
            """);
        test(33, "NONE", "form 255 | pane 0 0 0 | ~ stove 0 0 4 = NONE | ~ stove 0 0 24 = NONE");
        test(33, "by 3 (cut): the last of three", """
            form 255 | form 0x0066 | pane 0 0 0 | ~ stove 0 0 2 = 2 | ask 2 0 | ~ stove 0 0 2 = 5
            ~ stove 0 0 24 = 2
            """);
        test(33, "the greatest, though not with those below it", GAP + """
            ~ stove 0 0 4 = 9 | ~ stove 0 0 5 = 9 | ~ stove 0 1 5 = 2
            """);
        test(33, "at HOUR 24", """
            form 255 | pane 3 5 0 | ask 2 0 | ~ stove 0 0 24 = 0 | ask 2 1 | ~ stove 0 0 24 = NONE
            """);
    }

    private static void chills() {
        test(34, "the least COLD: 0", """
            form 0 | pane 0 0 0 | ~ chill 0 0 0 = 0 | ~ chill 0 0 24 = 0 | status 2 = 20
            """);
        test(34, "the least COLD: 40", """
            form 255 | pane 0 0 0 | ask 1 1 | ~ chill 0 0 1 = 40 | ~ chill 0 0 0 = 20 | status 2 = 20
            """);
        test(34, "NONE", """
            form 255 | pane 0 0 0 | ask 1 0 | ~ chill 0 0 0 = NONE | ask 1 1 | ~ chill 0 0 2 = NONE
            """);
        test(34, "the least, though not with those above it", GAP + "~ chill 0 0 4 = 0 | ~ chill 0 1 4 = 16");
        test(34, "SHARP 1 of COLD and a", """
            form 255 | pane 2 0 9 | ~ chill 0 0 0 = 13 | ask 1 1 | ~ chill 0 0 0 = 29 | ask 1 9
            ~ chill 0 0 0 = 12
            """);
        test(34, "at HOUR 24", "form 255 | pane 0 0 0 | ask 2 0 | ~ chill 0 0 24 = 4");
    }

    private static void mistaken() {
        test(35, "no PANES", "form 0 | ~ mistaken = 0");
        test(35, "no LETTERS", "pane 5 0 0 | ~ mistaken = 0");
        test(35, "nothing HANGS", """
            form 15 | pane 0 0 0 | ~ mistaken = 1 | hang 0 0 | ~ mistaken = 0 | hang 0 NONE | ~ mistaken = 1
            """);
        test(35, "at HOUR 0: not later", """
            form 255 | form 0x0F00 | pane 5 0 2 | ~ mistaken = 1 | ask 0 0 | ~ mistaken = 1 | form 0x000F
            ~ mistaken = 0 | ask 0 20 | ~ mistaken = 1 | ask 2 9 | ~ mistaken = 1
            """);
        test(35, "4 UNLIKE, 5 UNLIKE", """
            form 0x0F0F | pane 5 0 0 | ~ mistaken = 1 | form 0xF00F | ~ mistaken = 0
            """);
        test(35, "5 UNLIKE", "form 0x1F0F | pane 5 0 0 | ~ mistaken = 0");
        test(35, "in thought: not by what is there", """
            form 15 | pane 5 0 0 | pane 0 0 0 | form 65535 | hang 1 1 | night | breath 0 1 | breath 0 2
            hang 1 NONE | ~ mistaken = 3 | ask 0 0 | ~ mistaken = 3
            """);
        test(35, "eight PANES", eight("form 0", "") + """
            ~ mistaken = 255 | hang 0 0 | ~ mistaken = 254 | hang 7 0 | ~ mistaken = 126
            """);
    }

    private static void papers() {
        test(36, "no PANES", "~ let = 0");
        test(36, "A PANE without a LETTER is worth 0", """
            form 0 | pane 0 0 0 | ~ let = 0 | hang 0 0 | ~ let = 25 | pane 0 0 0 | ~ let = 25
            """);
        test(36, "the HOURS (0 to 24): all of these 25", """
            form 255 | pane 0 0 0 | hang 0 0 | ask 2 0 | ~ let = 25
            """);
        test(36, "HOUR 0 alone", "form 255 | pane 3 9 0 | hang 0 0 | ~ let = 1");
        test(36, "none of them", "form 255 | pane 0 0 0 | hang 0 0 | ask 0 0 | ~ let = 0");
        test(36, "all HOURS, after others too", GAP + "~ let = 23");
        test(36, "the last HOURS", LATE + "~ let = 10 | hang 0 1 | ~ let = 25");
        test(36, "in thought: not by what is there", """
            form 255 | pane 0 0 0 | hang 0 0 | ask 2 0 | night | breath 0 1 | hours 20 | ~ let = 25
            """);
        test(36, "two alike", "form 255 | pane 0 0 0 | pane 0 0 0 | hang 0 0 | hang 1 0 | ~ let = 0");
        // STOVED, with OUT 0: worth 25, 4, 3, 2, 1 with ROOM 0, 1, 2, 4, 9.
        test(36, "by turns, the first one first, all of them", """
            form 255 | form 65280 | ask 2 0
            pane 3 9 0 | hang 0 0 | ~ let = 1 | pane 3 0 0 | hang 1 0 | ~ let = 24 | pane 3 1 0 | hang 2 1
            ~ let = 22
            pane 3 2 0 | hang 3 0 | ~ let = 23 | pane 3 4 0 | hang 4 1 | ~ let = 23 | pane 0 0 0 | hang 5 0
            ~ let = 2
            pane 0 0 0 | ~ let = 2 | pane 3 1 0 | hang 7 0 | ~ let = 2
            """);
        test(36, "eight alike", eight("form 255", "hang") + """
            ~ let = 0 | hang 7 NONE | ~ let = 4 | hang 0 NONE | ~ let = 0
            """);
    }

    // ---- promises 37 to 44: in truth

    private static void nights() {
        test(37, "HOUR is 0", """
            status 5 = 24 | night = 0 | status 5 = 0 | hours 24 | night = 0 | status 5 = 0 | night = 0
            status 5 = 0
            """);
        test(37, "as at HOUR 0 (whatever they had)", """
            form 255 | form 65535 | pane 0 0 0 | hang 0 1 | night = 1 | truth 0 16 = 65535 | hang 0 0
            night = 1 | truth 0 16 = 255
            breath 0 0 | hours 1 | night = 1 | truth 0 16 = 255 | truth 0 0 = 5 | hang 0 NONE | night = 0
            truth 0 16 = 0
            """);
        test(37, "all PANES", eight("form 255", "hang") + """
            night = 255 | truth 0 16 = 255 | truth 7 16 = 255 | hang 7 NONE | night = 127 | truth 7 16 = 0
            """);
        test(37, "nothing HANGS and nothing is READ", """
            form 255 | pane 0 0 0 | readOf 0 = NONE | night = 0 | readOf 0 = NONE | status 6 = 0
            """);
        test(37, "nothing HANGS, though it's READ", """
            form 1 | pane 0 0 0 | night = 0 | readOf 0 = 0 | status 6 = 0
            """);
        test(37, "with nothing: the row of a LACE alone", """
            form 15 | pane 5 0 4 | pane 6 0 0 | night = 0 | truth 0 16 = 15 | readOf 0 = 0 | truth 1 16 = 0
            status 6 = 0
            """);
        test(37, "EDITIONS: some PANE, one or all", eight("form 255 | form 65280", "hang") + """
            status 6 = 0 | night = 255 | status 6 = 1 | hang 0 1 | ask 0 0 | night = 0 | status 6 = 1
            ask 0 20 | night = 255 | status 6 = 2 | hang 1 NONE | hang 2 NONE | hang 3 NONE | hang 4 NONE
            hang 5 NONE | hang 6 NONE
            hang 0 NONE | night = 128 | status 6 = 3 | hang 7 NONE | night = 0 | status 6 = 3
            """);
        test(37, "EDITIONS go by HOUR 0 of a NIGHT", """
            form 255 | form 65280 | pane 0 0 0 | hang 0 0 | night = 1 | status 6 = 1 | hours 24
            status 6 = 1 | readOf 0 = NONE
            """);
        test(37, "by COLD, WET, OUT and LETTERS as they are then", """
            form 255 | pane 0 0 0 | hang 0 0 | night = 1 | ask 0 40 | form 254 | truth 0 0 = 5 | night = 1
            truth 0 0 = 10
            """);
    }

    private static void hours() {
        test(38, "n HOURS (1 to 24)", """
            night | hours 1 = 1 | night | hours 24 = 24 | ! hours 0 = -6 | ! hours 25 = -6 | ! hours -1 = -6
            ! hours MAX = -6 | ! hours MIN = -6
            """);
        test(38, "-6 at HOUR 0", """
            scene | night | ! hours 0 = -6 | ! hours 25 = -6 | ! hours -1 = -6 | ! hours MAX = -6
            """);
        test(38, "-7 HOUR would be above 24", """
            scene | ! hours 23 = -7 | ! hours 24 = -7 | hours 22 = 24 | ! hours 1 = -7 | ! hours 24 = -7
            status 5 = 24
            """);
        test(38, "-6 before -7", "! hours 25 = -6 | ! hours 0 = -6 | ! hours 1 = -7");
        test(38, "24 at first", "form 255 | pane 0 0 0 | hang 0 0 | ! hours 1 = -7 | truth 0 16 = 0");
        test(38, "one by one as all at once", """
            form 255 | pane 0 0 0 | pane 4 3 2 | hang 0 0 | hang 1 0
            night | hours 1 | truth 0 0 = 3 | truth 0 1 = 4 | truth 1 0 = 2 | truth 1 1 = 3
            hours 1 | truth 0 0 = 1 | truth 0 1 = 3 | truth 1 0 = 0 | truth 1 1 = 1 | hours 1 = 3
            truth 0 0 = 0 | truth 0 1 = 2 | truth 1 16 = 0
            night | hours 3 = 3 | truth 0 0 = 0 | truth 0 1 = 2 | truth 1 16 = 0
            night | hours 2 = 2 | truth 0 0 = 1 | truth 0 1 = 3 | truth 1 0 = 0 | truth 1 1 = 1
            """);
        test(38, "SUNNY from HOUR a on, by the HOUR that it is", """
            form 1 | pane 4 0 2 | hang 0 0 | ask 2 0
            night | hours 2 | truth 0 0 = 5 | hours 1 | truth 0 0 = 1 | hours 1 | truth 0 0 = 0 | night
            hours 3 | truth 0 0 = 1
            """);
        test(38, "the last HOUR", """
            form 65535 | pane 0 2 0 | hang 0 0 | ask 2 0 | night | hours 23 = 23 | truth 0 0 = 5 | ask 2 1
            hours 1 = 24 | truth 0 0 = 3 | truth 0 1 = 4
            """);
        test(38, "all PANES", eight("form 255", "hang") + """
            night | hours 1 = 1 | truth 0 0 = 3 | truth 7 0 = 3 | truth 7 1 = 4
            """);
        test(38, "a PANE made by day has none", """
            form 255 | pane 0 0 0 | hang 0 0 | night | pane 0 0 0 | hang 1 0 | hours 1 = 1 | truth 1 16 = 0
            truth 0 16 = 255
            """);
        test(38, "no ICE left", """
            form 255 | pane 0 0 0 | hang 0 0 | night | hours 3 | truth 0 16 = 0x66 | hours 1
            truth 0 16 = 0 | hours 20 = 24 | truth 0 16 = 0 | truth 0 0 = 0
            """);
    }

    private static void truths() {
        test(39, "-1 no such PANE", """
            scene | ~ truth 0 16 = 6 | ~ truth 2 16 = 0 | ! truth 3 16 = -1 | ! truth -1 16 = -1
            ! truth MAX 0 = -1 | ! truth MIN 0 = -1 | ! truth 3 17 = -1 | ! truth -1 -1 = -1
            """);
        test(39, "ICE of a CELL (what 0 to 15), SHAPE (16)", """
            form 32769 | pane 0 0 0 | hang 0 0 | night
            ~ truth 0 0 = 5 | ~ truth 0 1 = 0 | ~ truth 0 14 = 0 | ~ truth 0 15 = 5 | ~ truth 0 16 = 32769
            ! truth 0 17 = -5 | ! truth 0 -1 = -5 | ! truth 0 MAX = -5 | ! truth 0 MIN = -5
            """);
        test(39, "without ICE at first", """
            form 255 | pane 5 0 0 | hang 0 0 | ~ truth 0 16 = 0 | ~ truth 0 0 = 0
            """);
        test(39, "all of it", "form 65535 | pane 0 0 0 | hang 0 0 | night | ~ truth 0 16 = 65535");
        test(40, "-11 (counted as -1)", """
            scene | ~ readOf 0 = NONE | ~ readOf 2 = NONE | ! readOf 3 = -11 | ! readOf -1 = -11
            ! readOf MAX = -11 | ! readOf MIN = -11
            """);
        test(40, "without ICE", "form 255 | pane 0 0 0 | ~ readOf 0 = NONE | form 1 | ~ readOf 0 = 1");
        test(40, "4 UNLIKE, 5 UNLIKE", """
            form 255 | pane 0 0 0 | hang 0 0 | night | breath 0 1 = 4 | ~ readOf 0 = 0 | scratch 0 7 = 5
            ~ readOf 0 = NONE
            """);
        test(40, "of eight PANES", eight("form 255", "hang") + "night | ~ readOf 7 = 0 | ! readOf 8 = -11");
    }

    /** Two PANES, full of ICE. */
    private static final String TWO_FULL = "form 65535 | pane 0 0 0 | pane 0 0 0 | hang 0 0 | hang 1 0 | night\n";

    private static void breaths() {
        for (int cell = 0; cell < 16; cell++) {
            int gone = 0;
            for (int other = 0; other < 16; other++) {
                boolean near = Math.abs(other / 4 - cell / 4) + Math.abs(other % 4 - cell % 4) <= 1;
                gone |= near ? 1 << other : 0;
            }
            test(41, "it and those beside it: CELL " + cell, TWO_FULL
                    + "breath 0 " + cell + " = " + Integer.bitCount(gone) + " | truth 0 16 = " + (65535 & ~gone)
                    + " | breath 0 " + cell + " = 0 | truth 0 " + cell + " = 0 | truth 1 16 = 65535");
        }
        test(41, "how many CELLS lost their ICE: none had any", """
            pane 0 0 0 | ~ breath 0 0 = 0 | ~ breath 0 15 = 0
            """);
        test(41, "how many CELLS lost their ICE: of what they had", """
            form 0x0213 | pane 0 0 0 | hang 0 0 | night | breath 0 5 = 3 | truth 0 16 = 1 | breath 0 4 = 1
            truth 0 16 = 0
            """);
        test(41, "any more: till the next NIGHT", """
            form 65535 | pane 0 0 0 | hang 0 0 | night | breath 0 5 = 5 | hours 1 | truth 0 5 = 0
            truth 0 6 = 0 | truth 0 7 = 3 | night | truth 0 16 = 65535
            """);
        test(41, "in truth alone", """
            form 65535 | pane 0 0 0 | hang 0 0 | night | breath 0 5 = 5 | shape 0 0 0 = 65535 | page 0 = 1
            """);
        test(41, "-5 CELL", """
            scene | ! breath 0 16 = -5 | ! breath 0 -1 = -5 | ! breath 0 MAX = -5 | ! breath 0 MIN = -5
            ~ breath 0 15 = 0
            """);
        test(41, "-1 no such PANE, before -5", """
            scene | ! breath 3 0 = -1 | ! breath -1 0 = -1 | ! breath 3 16 = -1 | ! breath -1 -1 = -1
            ! breath MAX 0 = -1
            """);
    }

    private static void scratches() {
        for (int cell = 0; cell < 16; cell++) {
            int left = 65535 & ~(1 << cell);
            String script = TWO_FULL + """
                scratch 0 CELL = 5 | truth 0 CELL = 0 | truth 0 16 = LEFT | paneOf 0 4 = BIT | ! scratch 0 CELL = -6
                night = 3 | truth 0 CELL = 0 | truth 0 16 = LEFT | ! scratch 0 CELL = -6
                ~ shape 0 0 0 = LEFT | ~ ice 0 0 0 CELL = 0
                truth 1 16 = 65535 | ~ shape 1 0 0 = 65535 | paneOf 1 4 = 0
                """;
            test(42, "a CELL has none, nor ever again: CELL " + cell, script
                    .replace("CELL", Integer.toString(cell))
                    .replace("LEFT", Integer.toString(left))
                    .replace("BIT", Integer.toString(1 << cell)));
        }
        test(42, "the ICE it had: none", """
            form 65535 | pane 0 0 0 | hang 0 0 | scratch 0 0 = 0 | night | truth 0 0 = 0 | breath 0 15
            scratch 0 15 = 0 | paneOf 0 4 = 32769
            """);
        test(42, "the ICE it had: what is left of it", """
            form 65535 | pane 0 0 0 | hang 0 0 | night | hours 1 | scratch 0 0 = 3 | scratch 0 5 = 4
            hours 4 | scratch 0 15 = 0
            """);
        test(42, "the ICE it had: 20", """
            form 1 | pane 1 0 9 | hang 0 0 | ask 0 40 | ask 1 9 | night | scratch 0 0 = 20
            """);
        test(42, "-6 it is scratched", """
            scene | ! scratch 0 5 = -6 | scratch 1 5 = 0 | ! scratch 1 5 = -6 | scratch 0 4 = 0
            """);
        test(42, "-5 CELL, before -6", """
            scene | ! scratch 0 16 = -5 | ! scratch 0 -1 = -5 | ! scratch 0 MAX = -5 | ! scratch 0 MIN = -5
            ! scratch 0 37 = -5 | scratch 0 15 = 0
            """);
        test(42, "-1 no such PANE, before -5", """
            scene | ! scratch 3 0 = -1 | ! scratch -1 0 = -1 | ! scratch 3 16 = -1 | ! scratch -1 -1 = -1
            ! scratch MAX 0 = -1
            """);
        test(42, "nor by draws", """
            form 65535 | pane 0 0 0 | hang 0 0 | scratch 0 3 | seed 22 | winter 1 | truth 0 3 = 0
            truth 0 2 = 18
            """);
        test(42, "all of them", """
            form 65535 | pane 0 0 0 | hang 0 0
            scratch 0 0 | scratch 0 1 | scratch 0 2 | scratch 0 3
            scratch 0 4 | scratch 0 5 | scratch 0 6 | scratch 0 7
            scratch 0 8 | scratch 0 9 | scratch 0 10 | scratch 0 11
            scratch 0 12 | scratch 0 13 | scratch 0 14 | scratch 0 15 = 0
            paneOf 0 4 = 65535 | night = 0 | truth 0 16 = 0 | ~ shape 0 0 0 = 0
            """);
        test(42, "not of a new PANE with its number", """
            pane 0 0 0 | image | pane 0 0 0 | scratch 1 3 | restore = 1 | pane 0 0 0 = 1 | paneOf 1 4 = 0
            scratch 1 3 = 0
            """);
    }

    private static void winters() {
        test(43, "n NIGHTS (1 to 40)", """
            form 0 | pane 0 0 0 | hang 0 0 | winter 1 = 1 | winter 40 = 40 | status 6 = 41 | ! winter 0 = -6
            ! winter 41 = -6 | ! winter -1 = -6 | ! winter MAX = -6 | ! winter MIN = -6
            """);
        test(43, "-6 changes nothing", "scene | ! winter 0 = -6 | ! winter 41 = -6 | ! winter MAX = -6");
        test(43, "COLD first, then WET, then a NIGHT", """
            form 255 | pane 0 0 0 | hang 0 0 | winter 1 = 1 | status 2 = 28 | status 3 = 6
            status 7 = -1770082073 | status 5 = 0 | truth 0 0 = 8
            """);
        test(43, "upper 16 bits, no sign: COLD 40, WET 9", """
            form 255 | pane 0 0 0 | hang 0 0 | seed 22 | winter 1 = 1 | status 2 = 40 | status 3 = 9
            status 7 = -1915397244 | truth 0 0 = 18
            """);
        test(43, "COLD 0, WET 0", """
            form 255 | pane 0 0 0 | hang 0 0 | seed 107 | winter 1 = 0 | status 2 = 0 | status 3 = 0
            status 7 = 768778337 | truth 0 16 = 0 | status 6 = 0
            """);
        test(43, "COLD 40, WET 0", """
            seed 17 | winter 1 = 0 | status 2 = 40 | status 3 = 0 | status 7 = -1062709385
            """);
        test(43, "COLD 0, WET 9", """
            seed 301 | winter 1 = 0 | status 2 = 0 | status 3 = 9 | status 7 = -1391746061
            """);
        test(43, "a DRAW of SEED 0", """
            seed 0 | winter 1 = 0 | status 2 = 0 | status 3 = 6 | status 7 = -740551042
            """);
        test(43, "DRAWS go on from NIGHT to NIGHT", "seed 22 | winter 3 = 0 | " + drawn(22, 6)
                + " | seed 22 | winter 1 | winter 2 | " + drawn(22, 6) + " | seed 5 | winter 40 | " + drawn(5, 80));
        test(43, "SEED wraps", "seed MAX | winter 1 | " + drawn(Integer.MAX_VALUE, 2)
                + " | seed MIN | winter 1 | " + drawn(Integer.MIN_VALUE, 2)
                + " | seed -1 | winter 1 | " + drawn(-1, 2));
        test(43, "EDITIONS of them: not those ahead", """
            form 0 | pane 0 0 0 | hang 0 0 | night | night | winter 2 = 2 | status 6 = 4 | winter 1 = 1
            status 6 = 5
            """);
        test(43, "EDITIONS: a NIGHT with two PANES counts once", """
            form 0 | pane 0 0 0 | hang 0 0 | pane 0 0 0 | hang 1 0 | winter 3 = 3 | status 6 = 3
            """);
        test(43, "no PANES", "winter 40 = 0 | status 5 = 0 | status 6 = 0");
        test(43, "at any HOUR", """
            scene | winter 1 | status 5 = 0 | hours 24 = 24 | winter 1 | status 5 = 0 | status 4 = 3
            """);
        test(44, "SEED becomes v (nothing is refused)", """
            scene
            seed 0 = 77 | seed MAX = 0 | seed MIN = MAX | seed -1 = MIN | status 7 = -1 | ~ seed -1 = -1
            status 11 = 0 | status 16 = 1
            """);
    }

    /** What COLD, WET and SEED are after some DRAWS, an even number of them. */
    private static String drawn(int seed, int draws) {
        int[] told = new int[2];
        int at = seed;
        for (int i = 0; i < draws; i++) {
            at = (int) (at * 1103515245L + 12345L);
            told[i % 2] = (int) ((at & 0xFFFFFFFFL) / 65536 % (i % 2 == 0 ? 41 : 10));
        }
        return "status 2 = " + told[0] + " | status 3 = " + told[1] + " | status 7 = " + at;
    }

    // ---- promises 45 to 49: acts, THE IMAGE, status

    private static void acts() {
        String kinds = "pane 0 0 9 | pane 1 0 9 | pane 2 0 9 | pane 3 0 9 | pane 4 0 9 | pane 5 0 9 | pane 6 0 9\n";
        String none = "act 0 0 5 = 0 | trace 0 = NONE | status 8 = 0\n";
        test(45, "no such PANE: 0, and no TRACE then", none + kinds + """
            act 0 2 5 | status 8 = 4 | act 7 0 5 = 0 | status 8 = 0 | trace 0 = NONE
            act 0 2 5 | trace 0 = 12 | act -1 0 5 = 0 | status 8 = 0 | trace 0 = NONE | trace 1 = NONE
            act 0 2 5 | act MAX 0 5 = 0 | status 8 = 0 | act 0 2 5 | act MIN 0 5 = 0 | status 8 = 0
            status 11 = 0
            """);
        test(45, "no such act: 0, and no TRACE then", kinds + """
            act 0 0 5 = 5 | act 0 1 5 = 10 | act 0 2 5 = -10 | act 0 3 5 = 0 | status 8 = 0 | trace 0 = NONE
            act 0 2 5 | act 0 -1 5 = 0 | status 8 = 0 | trace 0 = NONE
            act 0 2 5 | act 0 MAX 5 = 0 | status 8 = 0 | act 0 2 5 | act 0 MIN 5 = 0 | status 8 = 0
            status 16 = 0
            """);
        test(45, "x wraps: 10 x + m", """
            pane 0 0 0 | pane 0 0 0 | act 0 0 MAX = MAX | act 1 0 MAX = MIN | act 0 0 MIN = MIN
            """);
        test(45, "x wraps: 11 times 2", """
            pane 0 0 0 | act 0 1 1073741824 = MIN | act 0 1 MIN = 0 | act 0 1 MAX = -2
            """);
        test(45, "x wraps: 12 x - k", "pane 0 0 1 | act 0 2 MIN = MAX | act 0 2 0 = -1");
        test(45, "x wraps: 20 and k", "pane 1 0 9 | act 0 0 MAX = -2147483640 | act 0 0 MIN = -2147483639");
        test(45, "x wraps: 30 times 3", "pane 2 0 0 | act 0 1 715827883 = 2 | act 0 1 MAX = -6");
        test(45, "x wraps: 40 x + 1", "pane 3 0 0 | act 0 1 MAX = 0 | act 0 1 -1 = 0 | act 0 1 0 = 6");
        test(45, "x wraps: 50 the other sign", "pane 4 0 0 | act 0 2 MIN = MIN | act 0 2 1 = -3");
        test(45, "x wraps: 51 less m", """
            pane 0 0 0 | pane 4 0 0 | act 1 0 MAX = MAX | act 1 0 MIN = MIN | act 1 0 0 = 0
            """);
        test(45, "x wraps: 60", "pane 5 0 9 | act 0 2 MIN = -2147483625 | act 0 2 1 = 16");
        test(45, "x wraps: 70, 71", """
            pane 6 0 9 | act 0 0 1073741824 = MIN | act 0 1 MIN = -96 | pane 6 0 1 | act 1 1 MIN = 12
            """);
        test(45, "m of the last PANE", eight("form 0", "") + """
            act 7 0 0 = 7 | act 7 1 0 = 14 | act 8 0 0 = 0 | status 8 = 0
            """);
        test(45, "an ACT changes nothing but THE TRACE", """
            scene | ~ act 1 2 9 | ~ act 1 2 -77 | room 1 0 = 4 | paneOf 1 2 = 5
            """);
    }

    private static void traces() {
        test(46, "NONE: none such", """
            scene | ~ trace 0 = 12 | ~ trace 8 = 10 | ~ trace 9 = NONE | ~ trace -1 = NONE
            ~ trace 19 = NONE | ~ trace 20 = NONE | ~ trace MAX = NONE | ~ trace MIN = NONE
            """);
        test(46, "NONE: no act() yet", "pane 0 0 0 | ~ trace 0 = NONE | ~ trace -1 = NONE");
        test(46, "of the latest act()", """
            scene | act 0 0 1 | ~ trace 0 = 10 | ~ trace 1 = NONE | status 8 = 1 | act 0 1 1
            ~ trace 0 = 11 | ~ trace 1 = 10 | ~ trace 2 = NONE | status 8 = 2
            """);
        // freezes, melts and shows of each KIND, in the order in which the bodies began.
        String[] bodies = {"10", "11 10", "12 11 10 10", "20 10", "11 20 10", "12 11 20 10 20 10", "10", "30 11 10",
            "12 30 11 10 10", "10", "40 30 11 10", "12 40 30 11 10 10", "51 10", "11 51 10", "50 12 11 51 10 51 10",
            "20 10", "11 20 10", "60 12 11 20 10 20 10", "70 10", "71 40 30 11 70 10",
            "12 71 40 30 11 70 10 70 10"};
        for (int i = 0; i < bodies.length; i++) {
            String[] due = bodies[i].split(" ");
            StringBuilder script = new StringBuilder();
            script.append("pane ").append(i / 3).append(" 0 1 | act 0 ").append(i % 3).append(" 3 | status 8 = ")
                    .append(due.length).append('\n');
            for (int at = 0; at < due.length; at++) {
                script.append("~ trace ").append(at).append(" = ").append(due[at]).append('\n');
            }
            script.append("~ trace ").append(due.length).append(" = NONE");
            String sentence = "in the order in which they began: act " + i % 3 + " of KIND " + i / 3;
            test(46, sentence, script.toString());
        }
    }

    /** After image() and a change restore() brings all back; once more after the change is made again. */
    private static void comesBack(String change) {
        tests++;
        List<Step> before = stepsOf(SCENE);
        before.add(step("image"));
        Map<String, Long> due = seenAfter(before);
        for (int times = 1; times <= 2; times++) {
            List<Step> after = new ArrayList<>(before);
            for (int i = 0; i < times; i++) {
                after.addAll(stepsOf(change + " | restore = 3"));
            }
            Map<String, Long> seen = seenAfter(after);
            for (String call : due.keySet()) {
                // A press needs a ROW, and has a FAULT or none: these are not THE IMAGE's.
                boolean pressed = call.endsWith("fault()") || call.endsWith("holds(7)");
                if (!pressed && !due.get(call).equals(seen.get(call))) {
                    fault(48, "All is as THE IMAGE has it", call + " after " + change.strip() + ", " + times
                            + " times, answers " + seen.get(call) + ", due is " + due.get(call));
                }
            }
        }
    }

    private static void images() {
        test(47, "how many PANES", "image = 0 | pane 0 0 0 | image = 1 | restore = 1\n"
                + "pane 0 0 0\n".repeat(7) + "image = 8 | restore = 8");
        test(47, "no PANES, no LETTERS", """
            image = 0 | form 1 | pane 0 0 0 | restore = 0 | status 0 = 0 | status 1 = 0 | form 2 = 0
            formOf 0 = 2
            """);
        test(47, "the latest IMAGE", """
            form 1 | image | form 2 | image | form 3 | restore | status 0 = 2 | formOf 1 = 2 | restore
            status 0 = 2
            """);
        test(47, "nothing but THE IMAGE is changed", """
            scene | write 7 0 x
            press 7 = -6 | image = 3 | fault = 0 | status 8 = 9 | trace 0 = 12 | status 16 = 2 | holds 2 = 0
            status 5 = 2 | hangs 2 = 2
            """);
        test(48, "-6 there is none", """
            ! restore = -6 | form 1 | pane 0 0 0 | night | ! restore = -6 | formOf 0 = 1 | status 5 = 0
            """);
        String[] changes = {"form 9", "pane 1 2 3", "hang 0 1", "hang 2 NONE", "ask 0 3", "ask 1 3", "ask 2 8",
            "room 0 9", "night", "hours 1", "hours 22", "breath 0 1", "scratch 0 1", "scratch 0 9", "winter 2",
            "seed 4", "pane 0 0 0 | hang 3 0 | night | scratch 3 0", "form 9 | hang 0 3 | night",
            "write 7 0 form 1;pane 1 1 1;hang 0 1;cold 1;wet 1;out 1\npress 7 = 6"};
        for (String change : changes) {
            comesBack(change + "\n");
        }
        test(48, "SHELVES with PANES hold those of these numbers, or NOTHING", """
            pane 0 0 0 | pane 0 0 0 | image | pane 0 0 0 | show 0 0 | show 1 1 | show 2 2 | row 3 0 1
            show 7 2 | restore = 2
            holds 0 = 0 | holds 1 = 1 | holds 2 = NONE | holds 3 = 100 | holds 7 = NONE | holds 4 = NONE
            ! says 2 0 = -3 | pane 0 0 0 = 2 | holds 2 = NONE
            """);
        test(48, "of no PANES: all of them NOTHING", """
            image | pane 0 0 0 | show 0 0 | row 1 0 0 | restore = 0 | holds 0 = NONE | holds 1 = 100
            ! set 0 0 0 = -3
            """);
        test(48, "a PANE of that number is the IMAGE's", """
            pane 0 1 0 | image | room 0 5 | show 0 0 | restore | paneOf 0 1 = 1 | holds 0 = 0 | says 0 0 = 5
            """);
        test(48, "more PANES than now", """
            pane 0 1 0 | image | restore | pane 6 2 2 | image = 2 | restore = 2 | paneOf 1 0 = 6
            """);
        test(48, "all but SHELVES, REFUSALS, the FAULT, THE TRACE", """
            pane 0 0 0 | image | row 0 0 2 | set 0 1 5 | press 0 = -6 | reads -1 = -16 | act 0 1 1 | restore = 1
            element 0 1 = 5 | holds 0 = 100 | fault = 0 | status 16 = 2 | trace 0 = 11 | status 8 = 2
            """);
        test(48, "not those as they were then", """
            pane 0 0 0 | row 0 0 1 | press 0 = -6 | act 0 1 1 | show 1 0 | image | set 0 0 6
            write 2 0 out x
            press 2 = -6 | act 0 0 1 | show 1 NONE | restore = 1 | element 0 0 = 6 | fault = 4
            trace 0 = 10 | status 8 = 1 | holds 1 = NONE | status 16 = 2
            """);
        test(48, "room for more again", """
            image | full | restore = 0 | form 5 = 0 | pane 0 0 0 = 0 | hangs 0 = NONE | truth 0 16 = 0
            readOf 0 = 0
            """);
    }

    private static void statuses() {
        test(49, "NONE for another what", """
            scene | ~ status -1 = NONE | ~ status 9 = NONE | ~ status 10 = NONE | ~ status 18 = NONE
            ~ status MAX = NONE | ~ status MIN = NONE
            """);
        test(49, "how many there are", """
            scene | ~ status 0 = 3 | ~ status 1 = 3 | ~ status 2 = 20 | ~ status 3 = 5 | ~ status 4 = 3
            ~ status 5 = 2 | ~ status 6 = 1 | ~ status 7 = 77 | ~ status 8 = 9
            """);
        test(49, "all that there may be", """
            full | status 0 = 8 | status 1 = 8 | form 1 | pane 0 0 0 | status 0 = 8 | status 1 = 8
            status 17 = 2
            """);
        test(49, "11 to 17: REFUSALS -1 to -7", """
            pane 0 0 0 | show 0 0 | form 1
            formOf 9 | status 11 = 1 | set 0 0 0 | set 0 0 0 | status 12 = 2 | set 1 0 0 | set 1 0 0
            set 1 0 0 | status 13 = 3
            row 1 0 -1 | row 1 0 -1 | row 1 0 -1 | row 1 0 -1 | status 14 = 4 | closest | mend 0
            paneOf 9 0 | truth 0 17 | scratch 0 16 | status 15 = 5
            form -1 | ask 9 9 | hours 0 | winter 0 | restore | page 25 | status 16 = 6
            hours 1 | hours 1 | hours 1 | hours 1 | hours 1 | hours 1 | hours 1 | status 17 = 7
            status 11 = 1 | status 12 = 2 | status 13 = 3 | status 14 = 4 | status 15 = 5 | status 16 = 6
            status 17 = 7
            """);
        test(49, "-11 counted as -1, -16 as -6", """
            hangs 0 = -11 | readsAs 0 0 0 = -11 | lasts 0 0 = -11 | turns 0 0 0 = -11 | stove 0 0 0 = -11
            chill 0 0 0 = -11 | readOf 0 = -11
            status 11 = 7 | form 1 | pane 0 0 0 | reads -1 = -16 | readsAs 0 0 25 = -16 | stove 0 0 25 = -16
            chill 0 0 25 = -16 | status 16 = 4
            status 11 = 7 | status 12 = 0 | status 13 = 0 | status 14 = 0 | status 15 = 0 | status 17 = 0
            """);
        test(49, "what answers NONE isn't refused", """
            form 255 | pane 0 0 0 | hangs 0 = NONE | reads 0 = NONE | readsAs 0 NONE 0 = NONE
            holds 0 = NONE | fault = NONE | trace 0 = NONE
            ask 0 0 | lasts 0 0 = NONE | stove 0 0 0 = NONE | readOf 0 = NONE | status 9 = NONE
            status 11 = 0 | status 16 = 0
            """);
    }

    /** The 512th call is as good as the first. */
    private static void lifetimes() {
        lifetime("reads -1 = -16", "", 511, "status 16 = 511");
        lifetime("winter 40 = 40", "form 0 | pane 0 0 0 | hang 0 0", 508, "status 6 = 20320");
        lifetime("row 0 3 160 = 1", "", 510, "set 0 159 LMIN = 1 | element 0 159 = LMIN");
        lifetime("act 0 2 7 = 88", "pane 6 0 1", 510, "status 8 = 9");
    }

    /** Every call with every choice of the least, the greatest, and those next to 0: none throws. */
    private static void extremes() {
        long[] values = {Integer.MIN_VALUE, -1, 0, Integer.MAX_VALUE};
        for (String before : new String[] {"", SCENE, FULL}) {
            for (Method method : FACE.values()) {
                tests++;
                callWithAll(method, values, stepsOf(before));
            }
        }
    }

    private static void callWithAll(Method method, long[] values, List<Step> before) {
        long[] with = new long[method.getParameterCount()];
        int choices = 1 << 2 * with.length;
        Subject subject = null;
        for (int choice = 0; choice < choices; choice++) {
            if (subject == null || subject.calls == MOST_CALLS) {
                subject = new Subject();
                before.forEach(subject::call);
            }
            for (int i = 0; i < with.length; i++) {
                with[i] = values[choice >> 2 * i & 3];
            }
            subject.call(method.getName(), with);
        }
    }

    private static void lifetime(String call, String before, int times, String last) {
        test(1, "at most 512 calls: " + call, before + "\n" + (call + "\n").repeat(times) + last);
    }
}
