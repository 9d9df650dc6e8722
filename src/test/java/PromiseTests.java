/** The promises one by one: ordinary inputs, the edges that the document names, wrong inputs. */
public final class PromiseTests {
    private static final int NONE = PrintedByFrost.NONE;
    private static final int MIN = Integer.MIN_VALUE;
    private static final int MAX = Integer.MAX_VALUE;
    /** Letters that lie far apart: rings, crosses, halves. */
    private static final int RING = 0xF99F;
    private static final int LEFT = 0x3333;
    private static final int TOP = 0x00FF;

    private static int wrong = 0;
    private static int promise = 0;

    private static void due(String call, long got, long want) {
        if (got != want) {
            wrong++;
            System.out.println("promise " + promise + ": " + call + " answered " + got + ", due is " + want);
        }
    }

    public static void main(String[] args) {
        shelves();
        letters();
        panes();
        weather();
        presses();
        faults();
        roomInPresses();
        sharpness();
        patterns();
        wetFrost();
        melting();
        reading();
        hoursOfReading();
        words();
        othersRead();
        forms();
        warmthAndCold();
        curtainsAndPapers();
        nights();
        breathAndScratches();
        winters();
        acts();
        images();
        refusals();
        System.out.println(wrong == 0 ? "all promises hold" : wrong + " answers are not as due");
        if (wrong != 0) {
            System.exit(1);
        }
    }

    private static PrintedByFrost withLetters(int... forms) {
        PrintedByFrost x = new PrintedByFrost();
        for (int form : forms) {
            x.form(form);
        }
        return x;
    }

    private static void write(PrintedByFrost x, int s, int sort, String text) {
        x.row(s, sort, text.length());
        for (int i = 0; i < text.length(); i++) {
            x.set(s, i, text.charAt(i));
        }
    }

    private static void word(PrintedByFrost x, int s, int... letters) {
        x.row(s, 2, letters.length);
        for (int i = 0; i < letters.length; i++) {
            x.set(s, i, letters[i]);
        }
    }

    private static void shelves() {
        PrintedByFrost x = new PrintedByFrost();
        promise = 1;
        due("NONE", NONE, -1);
        due("status(0)", x.status(0), 0);
        due("status(1)", x.status(1), 0);
        promise = 2;
        due("row(7, 3, 160)", x.row(7, 3, 160), 1);
        due("row(0, 0, 0)", x.row(0, 0, 0), 1);
        due("row(8, 9, -1)", x.row(8, 9, -1), -1);
        due("row(-1, 0, 0)", x.row(-1, 0, 0), -1);
        due("row(0, 9, -1)", x.row(0, 9, -1), -4);
        due("row(0, 4, 161)", x.row(0, 4, 161), -6);
        due("row(0, -1, 0)", x.row(0, -1, 0), -6);
        due("row(0, 3, 161)", x.row(0, 3, 161), -7);
        due("row(0, 3, MAX)", x.row(0, 3, MAX), -7);
        x.row(1, 2, 4);
        x.set(1, 0, 8);
        x.set(1, 3, 9);
        x.row(1, 2, 4);
        due("element(1, 0) of a new row", x.element(1, 0), 0);
        due("element(1, 3) of a new row", x.element(1, 3), 0);

        promise = 3;
        long[] kept = {-56, 200, 200, 200};
        long[] big = {-1, 0x7FFF, 0x12347FFF, 0x7000000012347FFFL};
        for (int sort = 0; sort < 4; sort++) {
            x.row(2, sort, 2);
            due("set", x.set(2, 0, 200), 1);
            due("element of sort " + sort, x.element(2, 0), kept[sort]);
            x.set(2, 1, 0x7000000012347FFFL);
            due("big element of sort " + sort, x.element(2, 1), big[sort]);
        }
        due("set(2, 2, 0)", x.set(2, 2, 0), -5);
        due("set(2, -1, 0)", x.set(2, -1, 0), -5);
        due("set(3, 0, 0)", x.set(3, 0, 0), -3);
        due("set(8, 0, 0)", x.set(8, 0, 0), -1);
        x.pane(0, 0, 0);
        x.show(4, 0);
        due("set on a pane", x.set(4, 0, 0), -2);

        copies(x);
        shown(x);
    }

    private static void copies(PrintedByFrost x) {
        promise = 4;
        x.row(0, 1, 5);
        for (int i = 0; i < 5; i++) {
            x.set(0, i, 10 + i);
        }
        due("copy(0, 0, 0, 1, 4)", x.copy(0, 0, 0, 1, 4), 1);
        due("up, last", x.element(0, 4), 13);
        due("up, first", x.element(0, 1), 10);
        due("copy(0, 0, 2, 0, 3)", x.copy(0, 0, 2, 0, 3), 1);
        due("down, first", x.element(0, 0), 11);
        due("down, last", x.element(0, 2), 13);
        x.row(5, 1, 3);
        due("copy to another", x.copy(0, 5, 1, 0, 3), 1);
        due("copied", x.element(5, 2), x.element(0, 3));
        due("copy of none at the end", x.copy(0, 5, 5, 3, 0), 1);
        due("copy of none beyond", x.copy(0, 5, 6, 3, 0), -5);
        due("end beyond in from", x.copy(0, 5, 3, 0, 3), -5);
        due("end beyond in to", x.copy(0, 5, 0, 1, 3), -5);
        due("i below 0", x.copy(0, 5, -1, 0, 1), -5);
        due("j below 0", x.copy(0, 5, 0, -1, 1), -5);
        due("n MAX", x.copy(0, 5, 1, 1, MAX), -5);
        due("n below 0", x.copy(0, 5, -1, 0, -1), -4);
        due("no shelf", x.copy(8, 5, 0, 0, 0), -1);
        due("no other shelf", x.copy(0, -1, 0, 0, 0), -1);
        due("a pane and nothing", x.copy(4, 3, 0, 0, -1), -2);
        due("nothing and a pane", x.copy(3, 4, 0, 0, -1), -2);
        due("two sorts", x.copy(0, 2, 0, 0, -1), -2);
        due("nothing in from", x.copy(3, 0, 0, 0, -1), -3);
        due("nothing in to", x.copy(0, 3, 0, 0, -1), -3);
        promise = 5;
        due("element(8, 0)", x.element(8, 0), 0);
        due("element(0, 5)", x.element(0, 5), 0);
        due("element(0, -1)", x.element(0, -1), 0);
        due("element of a pane", x.element(4, 0), 0);
        due("status(15)", x.status(15), 7 + 1);
    }

    private static void shown(PrintedByFrost x) {
        promise = 6;
        due("show(6, 0)", x.show(6, 0), 1);
        due("holds(6)", x.holds(6), 0);
        due("show(6, NONE)", x.show(6, NONE), 0);
        due("show(6, 1)", x.show(6, 1), -1);
        due("show(6, -2)", x.show(6, -2), -1);
        due("show(-1, NONE)", x.show(-1, NONE), -1);
        due("show over a row", x.show(5, 0), 1);
        due("element there", x.element(5, 0), 0);
        promise = 7;
        due("holds a pane", x.holds(5), 0);
        due("holds nothing", x.holds(6), NONE);
        due("holds a row of shorts", x.holds(0), 101);
        due("holds a row of longs", x.holds(2), 103);
        due("holds, no shelf", x.holds(8), NONE);
        due("holds, no shelf", x.holds(-1), NONE);

        promise = 8;
        x.ask(0, 30);
        x.ask(2, 2);
        int[][] made = {{0, 4, 9}, {1, 5, 4}, {2, 6, 5}, {3, 7, 6}, {4, 8, 7}, {5, 9, 6}, {6, 3, 3}};
        for (int[] one : made) {
            x.pane(one[0], one[1], one[2]);
        }
        // Sharp: 30 * 5 / 20 = 7; thick by 25, 24, 27; each kind's own word and those above it.
        int[][] said = {{7, -2, -2, -2, -2, -2, -2}, {11, 4, -2, -2, -2, -2, -2}, {6, -2, 25, -2, -2, -2, -2},
            {6, -2, 24, 7, -2, -2, -2}, {7, -2, -2, -2, 7, -2, -2}, {13, 6, -2, -2, -2, 2, -2},
            {6, -2, 27, 3, -2, -2, 3}};
        for (int i = 0; i < 7; i++) {
            x.show(6, i + 1);
            for (int kind = 0; kind < 7; kind++) {
                due("says of kind " + i + " as " + kind, x.says(6, kind), said[i][kind]);
            }
        }
        x.ask(0, 4);
        x.show(6, 3);
        due("the cold that counts is no less than 0", x.says(6, 2), 0);
        due("says(6, 7)", x.says(6, 7), -1);
        due("says(6, -1)", x.says(6, -1), -1);
        due("says(8, 0)", x.says(8, 0), -1);
        due("says of a row", x.says(0, 0), -2);
        due("says of nothing", x.says(3, 0), -3);
    }

    private static void letters() {
        PrintedByFrost x = new PrintedByFrost();
        promise = 9;
        due("form(65536)", x.form(65536), -6);
        due("form(-1)", x.form(-1), -6);
        for (int i = 0; i < 8; i++) {
            due("form", x.form(i == 7 ? 65535 : i), i);
        }
        due("the ninth", x.form(0), -7);
        due("the ninth, wrong too", x.form(65536), -6);
        promise = 10;
        due("formOf(7)", x.formOf(7), 65535);
        due("formOf(0)", x.formOf(0), 0);
        due("formOf(8)", x.formOf(8), -1);
        due("formOf(-1)", x.formOf(-1), -1);
    }

    private static void panes() {
        PrintedByFrost x = withLetters(RING);
        promise = 11;
        due("pane(7, 10, 10)", x.pane(7, 10, 10), -1);
        due("pane(-1, 0, 0)", x.pane(-1, 0, 0), -1);
        due("pane(0, -1, 0)", x.pane(0, -1, 0), -6);
        due("pane(0, 10, 0)", x.pane(0, 10, 0), -6);
        due("pane(0, 0, -1)", x.pane(0, 0, -1), -6);
        due("pane(0, 0, 10)", x.pane(0, 0, 10), -6);
        for (int i = 0; i < 8; i++) {
            due("pane", x.pane(i % 7, 9 - i, i), i);
        }
        due("the ninth", x.pane(0, 0, 0), -7);
        due("the ninth, wrong too", x.pane(0, 0, 10), -6);
        promise = 12;
        due("KIND", x.paneOf(5, 0), 5);
        due("ROOM", x.paneOf(5, 1), 4);
        due("a", x.paneOf(5, 2), 5);
        due("SHARP", x.paneOf(5, 3), 10);
        due("scratched", x.paneOf(5, 4), 0);
        due("another what", x.paneOf(5, 5), -5);
        due("another what", x.paneOf(5, -1), -5);
        due("no pane", x.paneOf(8, 0), -5);
        due("no pane", x.paneOf(-1, 0), -5);
        promise = 13;
        due("hang(3, 0)", x.hang(3, 0), 1);
        due("hang(3, 1)", x.hang(3, 1), -1);
        due("hang(3, -2)", x.hang(3, -2), -1);
        due("hang(8, 0)", x.hang(8, 0), -1);
        promise = 14;
        due("hangs(3)", x.hangs(3), 0);
        due("hangs(4)", x.hangs(4), NONE);
        due("hangs(8)", x.hangs(8), -11);
        due("hangs(-1)", x.hangs(-1), -11);
        due("hang(3, NONE)", x.hang(3, NONE), 0);
        due("hangs(3)", x.hangs(3), NONE);
        due("status(11)", x.status(11), 2 + 3 + 2);
        promise = 16;
        due("room(0, 3)", x.room(0, 3), 9);
        due("room(0, 9)", x.room(0, 9), 3);
        due("room(0, 0)", x.room(0, 0), 9);
        due("room(0, -1)", x.room(0, -1), -6);
        due("room(0, 10)", x.room(0, 10), -6);
        due("room(8, 10)", x.room(8, 10), -1);
        due("paneOf(0, 1)", x.paneOf(0, 1), 0);
    }

    private static void weather() {
        PrintedByFrost x = new PrintedByFrost();
        promise = 15;
        due("ask(0, 40)", x.ask(0, 40), 20);
        due("ask(0, 41)", x.ask(0, 41), -6);
        due("ask(0, 0)", x.ask(0, 0), 40);
        due("ask(0, -1)", x.ask(0, -1), -6);
        due("ask(1, 9)", x.ask(1, 9), 5);
        due("ask(1, 10)", x.ask(1, 10), -6);
        due("ask(1, 0)", x.ask(1, 0), 9);
        due("ask(2, 9)", x.ask(2, 9), 1);
        due("ask(2, 10)", x.ask(2, 10), -6);
        due("ask(2, 0)", x.ask(2, 0), 9);
        due("ask(3, 0)", x.ask(3, 0), -6);
        due("ask(-1, 0)", x.ask(-1, 0), -6);
        due("status(2)", x.status(2), 0);
        due("status(3)", x.status(3), 0);
        due("status(4)", x.status(4), 0);
        due("status(16)", x.status(16), 6);
    }

    private static void presses() {
        PrintedByFrost x = new PrintedByFrost();
        promise = 18;
        due("fault() at first", x.fault(), NONE);
        promise = 17;
        write(x, 0, 3, "form 00255;pane 5 9 8;hang 0 0;cold 40;wet 9;out 9");
        x.set(0, 0, 'f' + (1L << 32));
        due("press of longs", x.press(0), 6);
        due("formOf(0)", x.formOf(0), 255);
        due("KIND", x.paneOf(0, 0), 5);
        due("ROOM", x.paneOf(0, 1), 9);
        due("a", x.paneOf(0, 2), 8);
        due("hangs(0)", x.hangs(0), 0);
        due("COLD", x.status(2), 40);
        due("WET", x.status(3), 9);
        due("OUT", x.status(4), 9);
        write(x, 1, 0, "cold 0");
        due("press of one", x.press(1), 1);
        due("COLD", x.status(2), 0);
        write(x, 1, 1, "form 65535;form 0;hang 0 2;wet 10");
        due("press with a fault", x.press(1), -6);
        due("nothing is told", x.status(0), 1);
        due("nothing is told", x.hangs(0), 0);
        promise = 18;
        due("fault()", x.fault(), 31);
        due("press(8)", x.press(8), -1);
        due("press(7)", x.press(7), -3);
        x.show(6, 0);
        due("press(6)", x.press(6), -2);
        due("fault() of the latest that came to a row", x.fault(), 31);
        x.press(0);
        due("fault() after one that stands", x.fault(), NONE);
        due("letters", x.status(0), 2);
    }

    private static void faults() {
        promise = 18;
        fault("", 0);
        fault("x", 0);
        fault(" form 1", 0);
        fault("F", 0);
        fault("form", 4);
        fault("form ", 5);
        fault("form  1", 5);
        fault("formx", 4);
        fault("fore 1", 3);
        fault("form x", 5);
        fault("form -1", 5);
        fault("form 65535", NONE);
        fault("form 65536", 5);
        fault("form 655360", 5);
        fault("form 123456", 10);
        fault("form 000001", 10);
        fault("form 1 ", 6);
        fault("form 1;", 7);
        fault("form 1;;", 7);
        fault("form 1; cold 1", 7);
        fault("form 1 ;cold 1", 6);
        fault("cold 41", 5);
        fault("cold 00040", NONE);
        fault("cold 000041", 10);
        fault("cold 41x", 5);
        fault("cold 4x", 6);
        fault("wet 10", 4);
        fault("wet", 3);
        fault("we", 2);
        fault("out 9", NONE);
        fault("out 10", 4);
        fault("ou t", 2);
        fault("pane 7", 5);
        fault("pane 6 9 9", NONE);
        fault("pane 6 10 9", 7);
        fault("pane 6 9 10", 9);
        fault("pane 6 9", 8);
        fault("pane 6;", 6);
        fault("pane 0 0 0 0", 10);
        fault("hang 0 0", 5);
        fault("pane 0 0 0;hang 0 0", 18);
        fault("pane 0 0 0;form 1;hang 0 0", NONE);
        fault("form 1;pane 0 0 0;hang 1 0", 23);
        fault("hang 0 0;pane 0 0 0;form 1", 5);
        fault("form 1form 2", 6);
        fault("form 1\u00ff", 6);
    }

    /** Each on a new object, as bytes. */
    private static void fault(String text, int place) {
        PrintedByFrost x = new PrintedByFrost();
        write(x, 0, 0, text);
        int got = x.press(0);
        due("press \"" + text + "\" stands", got > 0 ? 1 : got, place == NONE ? 1 : -6);
        due("fault of \"" + text + "\"", x.fault(), place);
        due("-6 counted", x.status(16), place == NONE ? 0 : 1);
    }

    private static void roomInPresses() {
        PrintedByFrost x = withLetters(1, 2, 3, 4, 5, 6, 7);
        for (int i = 0; i < 7; i++) {
            x.pane(0, 0, 0);
        }
        promise = 17;
        String[] texts = {"form 1;form 2", "form 1;form x", "form 1;formx", "form 1;form", "form 1;for",
            "form 1;forx", "form 1;f", "pane 0 0 0;pane 9 9 9", "pane 0 0 0;pax", "wet 1;form 1;pane 1 1 1"};
        int[] places = {7, 7, 7, 7, 10, 10, 8, 11, 13, NONE};
        for (int i = 0; i < texts.length; i++) {
            write(x, 0, 2, texts[i]);
            due("press \"" + texts[i] + "\"", x.press(0), places[i] == NONE ? 3 : -6);
            due("fault of \"" + texts[i] + "\"", x.fault(), places[i]);
        }
        due("status(0)", x.status(0), 8);
        due("status(1)", x.status(1), 8);
    }

    private static void sharpness() {
        PrintedByFrost x = withLetters(RING);
        for (int kind = 0; kind < 7; kind++) {
            x.pane(kind, 0, 9);
        }
        promise = 12;
        int[][] cases = {{20, 5}, {40, 9}, {3, 5}, {10, 2}, {9, 9}, {40, 0}};
        // PANE, NORTH (9 more if 1 at least), THICK (9 less, 0 at least)
        int[][] sharps = {{5, 14, 2}, {18, 27, 13}, {0, 0, 0}, {1, 10, 0}, {4, 13, 0}, {0, 0, 0}};
        int[] like = {0, 1, 2, 2, 0, 1, 2};
        for (int i = 0; i < cases.length; i++) {
            x.ask(0, cases[i][0]);
            x.ask(1, cases[i][1]);
            for (int kind = 0; kind < 7; kind++) {
                due("SHARP of kind " + kind, x.paneOf(kind, 3), sharps[i][like[kind]]);
            }
        }
        promise = 20;
        x.ask(0, 40);
        x.ask(1, 9);
        due("ICE is 20 at most", x.ice(1, 0, 0, 0), 20);
        due("ICE of a PANE", x.ice(0, 0, 0, 0), 18);
        due("half of 20", x.ice(1, 0, 0, 5), 0);
    }

    private static void patterns() {
        PrintedByFrost x = withLetters(0x9999, 0xF000);
        x.pane(0, 0, 0);
        x.pane(5, 0, 7);
        x.pane(6, 0, 0);
        x.pane(5, 0, 0);
        promise = 21;
        due("FORM", x.shape(0, 0, 0), 0x9999);
        due("LACE: row 3 too", x.shape(1, 0, 0), 0xF999);
        due("LACE: row 0 too", x.shape(3, 0, 0), 0x999F);
        due("LACE with nothing", x.shape(1, NONE, 0), 0xF000);
        due("SMOKED: without row 3", x.shape(2, 0, 0), 0x0999);
        due("SMOKED: nothing left", x.shape(2, 1, 0), 0);
        due("nothing", x.shape(0, NONE, 0), 0);
        due("hour 24", x.shape(0, 0, 24), 0);
        due("hour 25", x.shape(0, 0, 25), -6);
        due("hour -1", x.shape(0, 0, -1), -6);
        due("no letter", x.shape(0, 2, 25), -1);
        due("no letter", x.shape(0, -2, 0), -1);
        due("no pane", x.shape(4, 0, 0), -1);
        promise = 20;
        due("ICE of a CELL", x.ice(0, 0, 0, 15), 5);
        due("ICE beside", x.ice(0, 0, 0, 14), 0);
        due("CELL 16", x.ice(0, 0, 25, 16), -5);
        due("CELL -1", x.ice(0, 0, 0, -1), -5);
        due("hour 25", x.ice(0, 0, 25, 15), -6);
        due("hour -1", x.ice(0, 0, -1, 15), -6);
        due("no letter", x.ice(0, 2, 25, 16), -1);
        due("no pane", x.ice(-1, 0, 0, 0), -1);
    }

    private static void wetFrost() {
        // Cells 1, 4 and 6 beside 5; 8, 13 beside 12 but only two; 11, 14 and no more beside 15.
        PrintedByFrost x = withLetters(1 << 1 | 1 << 4 | 1 << 6, 1 << 12 | 1 << 14 | 1 << 9, 0x0660, 0xF0F0);
        x.pane(0, 0, 0);
        x.pane(6, 0, 0);
        x.ask(0, 30);
        x.ask(1, 6);
        promise = 20;
        due("ICE of the PATTERN", x.ice(0, 0, 0, 4), 9);
        due("half beside three", x.ice(0, 0, 0, 5), 4);
        due("nothing beside two", x.ice(0, 0, 0, 0), 0);
        due("half in row 3", x.ice(0, 1, 0, 13), 4);
        due("SMOKED: not in row 3", x.ice(1, 1, 0, 13), 0);
        due("SMOKED: beside row 3 only", x.ice(1, 3, 0, 8), 0);
        due("between two rows", x.ice(0, 3, 0, 8), 0);
        due("between two rows", x.ice(0, 3, 0, 9), 0);
        x.ask(1, 5);
        due("WET is less than 6", x.ice(0, 0, 0, 5), 0);
        x.ask(1, 9);
        x.ask(0, 40);
        due("half of 18", x.ice(0, 0, 0, 5), 9);
        x.scratch(0, 5);
        x.scratch(0, 4);
        due("a scratched CELL beside", x.ice(0, 0, 0, 5), 0);
        due("a scratched CELL of the PATTERN", x.ice(0, 0, 0, 4), 0);
        x.pane(0, 0, 0);
        x.scratch(2, 4);
        due("what is scratched is of the PATTERN still", x.ice(2, 0, 0, 5), 9);
        x.pane(1, 0, 9);
        due("half of SHARP held at 20", x.ice(3, 0, 0, 5), 10);
        due("rows don't go on in the next", x.ice(0, 2, 0, 4), 0);
    }

    private static void melting() {
        PrintedByFrost x = withLetters(0x0FFF);
        int[][] made = {{0, 5, 0}, {1, 6, 0}, {2, 8, 0}, {3, 8, 0}, {4, 2, 9}, {5, 9, 0}, {6, 7, 0}, {0, 0, 0}};
        for (int[] one : made) {
            x.pane(one[0], one[1], one[2]);
        }
        x.ask(2, 2);
        promise = 19;
        int[] melts = {3, 4, 4, 10, 2, 5, 9, 2};
        for (int i = 0; i < 8; i++) {
            due("melt(" + i + ", 8)", x.melt(i, 8), melts[i]);
        }
        due("melt(0, 0)", x.melt(0, 0), 3);
        due("SUNNY from a on", x.melt(4, 9), 5);
        due("SUNNY at the last", x.melt(4, 23), 5);
        due("melt(0, 24)", x.melt(0, 24), -6);
        due("melt(0, -1)", x.melt(0, -1), -6);
        due("melt(8, 24)", x.melt(8, 24), -1);
        promise = 20;
        x.ask(0, 40);
        x.ask(1, 9);
        // 18, by 2 each hour; at the sides by 3, then those next to them from the hour they are gone.
        due("inner at 1", x.ice(7, 0, 1, 5), 16);
        due("outer at 1", x.ice(7, 0, 1, 4), 15);
        due("outer at 6", x.ice(7, 0, 6, 7), 0);
        due("inner at 6", x.ice(7, 0, 6, 6), 6);
        due("inner at 7", x.ice(7, 0, 7, 6), 3);
        due("inner at 8", x.ice(7, 0, 8, 6), 0);
        x.form(1);
        due("a CELL alone", x.ice(7, 1, 2, 0), 12);
        x.ask(2, 0);
        due("no MELT, nothing lost", x.ice(7, 0, 24, 4), 18);
        promise = 21;
        x.ask(2, 2);
        due("shape at 5", x.shape(7, 0, 5), 0x0FFF);
        due("shape at 6", x.shape(7, 0, 6), 0x0666);
        due("shape at 8", x.shape(7, 0, 8), 0);
    }

    private static void reading() {
        PrintedByFrost x = withLetters(0x000F, 0x00FF, 0xFF00);
        promise = 22;
        due("as it is", x.reads(0x000F), 0);
        due("one more", x.reads(0x001F), 0);
        due("two each", x.reads(0x003F), NONE);
        due("nearer to the second", x.reads(0x007F), 1);
        due("4 UNLIKE", x.reads(0x0000), 0);
        due("5 UNLIKE", x.reads(0x7800), 2);
        due("6 UNLIKE", x.reads(0x7801), NONE);
        due("more than 4", x.reads(0x3300), 2);
        due("more than 4", x.reads(0x3100), NONE);
        due("reads(65535)", x.reads(65535), NONE);
        due("reads(65536)", x.reads(65536), -16);
        due("reads(-1)", x.reads(-1), -16);
        due("status(16)", x.status(16), 2);
        PrintedByFrost y = withLetters(RING, RING);
        due("two alike", y.reads(RING), NONE);
        y.form(RING ^ 1);
        due("two alike are no hindrance", y.reads(RING ^ 1), 2);
    }

    private static void hoursOfReading() {
        // TOP is read as long as its outer cells stand; then 0x0066 is another letter.
        PrintedByFrost x = withLetters(TOP, 0x0066, 0xFF00);
        x.pane(0, 0, 0);
        x.pane(3, 9, 0);
        promise = 23;
        due("at 0", x.readsAs(0, 0, 0), 0);
        due("at 2", x.readsAs(0, 0, 2), 0);
        due("at 3", x.readsAs(0, 0, 3), 1);
        due("at 4: 1 left", x.readsAs(0, 0, 4), 1);
        due("at 5: nothing is 4 UNLIKE the second", x.readsAs(0, 0, 5), 1);
        due("nothing hung", x.readsAs(0, NONE, 0), 1);
        due("hour 25", x.readsAs(0, 0, 25), -16);
        due("hour -1", x.readsAs(0, 0, -1), -16);
        due("no letter", x.readsAs(0, 3, 25), -11);
        due("no letter", x.readsAs(0, -2, 0), -11);
        due("no pane", x.readsAs(2, 0, 25), -11);
        promise = 24;
        due("lasts(0, 0)", x.lasts(0, 0), 2);
        due("lasts(0, 1) to the end", x.lasts(0, 1), 24);
        due("lasts(1, 0)", x.lasts(1, 0), 0);
        due("lasts(0, NONE)", x.lasts(0, NONE), -11);
        due("lasts(0, 3)", x.lasts(0, 3), -11);
        due("lasts(2, 0)", x.lasts(2, 0), -11);
        promise = 28;
        due("turns(0, 0, 1)", x.turns(0, 0, 1), 3);
        due("turns(1, 0, 1)", x.turns(1, 0, 1), 1);
        PrintedByFrost y = withLetters(0x000F, 0x0F0F);
        y.pane(5, 0, 2);
        due("turns at HOUR 0", y.turns(0, 0, 1), 0);
        due("turns(0, 0, 2)", x.turns(0, 0, 2), NONE);
        due("turns(0, 0, 3)", x.turns(0, 0, 3), -11);
        due("turns(0, 0, NONE)", x.turns(0, 0, NONE), -11);
        due("turns(0, NONE, 0)", x.turns(0, NONE, 0), -11);
        due("turns(2, 0, 1)", x.turns(2, 0, 1), -11);
        promise = 25;
        due("nothing hangs", x.page(0), 0);
        x.hang(0, 0);
        x.hang(1, 0);
        due("page(0)", x.page(0), 3);
        due("page(1)", x.page(1), 1);
        due("page(2)", x.page(2), 1);
        due("page(3)", x.page(3), 0);
        due("page(24)", x.page(24), 0);
        due("page(25)", x.page(25), -6);
        due("page(-1)", x.page(-1), -6);
        promise = 24;
        x.ask(0, 1);
        due("not at 0", x.lasts(0, 0), NONE);
        x.ask(0, 20);
        x.ask(2, 0);
        due("never melts", x.lasts(0, 0), 24);
        due("SHARP 5 on a stoved pane", x.lasts(1, 0), 0);
    }

    private static void words() {
        // Panes 1 and 3 have warm rooms: there nothing is left at hour 1.
        PrintedByFrost x = withLetters(0x000F, 0xF000, 0x0FF0, 0x9009);
        int[] kinds = {0, 3, 0, 3, 0};
        for (int kind : kinds) {
            x.pane(kind, 9, 0);
        }
        x.ask(0, 40);
        promise = 26;
        word(x, 0, 0, 1, 2);
        due("all by hour 0", x.prints(0, 3, 0, NONE), 3);
        due("the first row", x.prints(0, 3, 0, 0), 0);
        due("the first row", x.prints(0, 3, 0, 1), 1);
        due("the first row", x.prints(0, 3, 0, 2), 2);
        due("by hour 1", x.prints(0, 3, 1, NONE), 3);
        due("by hour 1", x.prints(0, 3, 1, 0), 0);
        due("by hour 1", x.prints(0, 3, 1, 1), 2);
        due("by hour 1", x.prints(0, 3, 1, 2), 4);
        due("two of them", x.prints(0, 2, 1, 1), 2);
        due("one", x.prints(0, 1, 1, 0), 0);
        word(x, 1, 0, 1, 2, 3, 0);
        due("five by hour 1", x.prints(1, 5, 1, NONE), 3);
        due("four by hour 1", x.prints(1, 4, 1, NONE), 3);
        due("four by hour 1", x.prints(1, 4, 1, 0), 0);
        due("four by hour 1", x.prints(1, 4, 1, 1), 1);
        due("four by hour 1", x.prints(1, 4, 1, 2), 2);
        due("four by hour 1", x.prints(1, 4, 1, 3), 4);
        due("none by hour 24", x.prints(1, 2, 24, NONE), 0);
        due("none by hour 24: the first row", x.prints(1, 2, 24, 1), 1);
        due("the word of no letters", x.prints(1, 0, 0, NONE), 0);
        due("the word of no letters, 0", x.prints(1, 0, 0, 0), -5);
        due("i -2", x.prints(1, 2, 0, -2), -5);
        due("i n", x.prints(1, 2, 0, 2), -5);
        due("fewer elements", x.prints(1, 6, 25, NONE), -5);
        due("n -1", x.prints(1, -1, 25, -2), -4);
        due("hour 25", x.prints(1, 2, 25, NONE), -6);
        due("hour -1", x.prints(1, 2, -1, NONE), -6);
        due("no shelf", x.prints(8, -1, 25, NONE), -1);
        due("nothing", x.prints(2, -1, 25, NONE), -3);
        x.show(2, 0);
        due("a pane", x.prints(2, -1, 25, NONE), -2);
        word(x, 3, 4, 0);
        due("no letter at the first", x.prints(3, 2, 0, NONE), -6);
        word(x, 3, 0, 4, 0, 0, 0, 0);
        due("no letter there", x.prints(3, 2, 0, NONE), -6);
        due("it is not of the word", x.prints(3, 1, 0, NONE), 1);
        due("no letter before too many", x.prints(3, 6, 0, NONE), -6);
        x.set(3, 1, 0);
        due("more than there are PANES", x.prints(3, 6, 0, NONE), -7);
        x.row(4, 3, 1);
        x.set(4, 0, 1L << 32 | 3);
        due("the lowest 32 bits", x.prints(4, 1, 0, NONE), 1);
        due("nothing is changed", x.hangs(0), NONE);
        wordsInOrder();
    }

    /** A smoked pane shows no letter of row 3: so it counts which letter of the word comes where. */
    private static void wordsInOrder() {
        PrintedByFrost x = withLetters(0x00FF, 0xFF00, 0x0FF0);
        x.pane(0, 0, 0);
        x.pane(6, 0, 0);
        x.pane(0, 0, 0);
        x.form(0xFC00);
        x.form(0x0300);
        word(x, 0, 0, 1, 2);
        due("the second not on the smoked one", x.prints(0, 3, 0, NONE), 2);
        word(x, 0, 1, 0, 3);
        due("the smoked one in the middle", x.prints(0, 3, 0, NONE), 3);
        word(x, 0, 1, 2);
        due("both", x.prints(0, 2, 0, NONE), 2);
        due("both on the first row", x.prints(0, 2, 0, 1), 1);
        word(x, 0, 0, 1);
        due("the second on the last", x.prints(0, 2, 0, NONE), 2);
        due("the second on the last", x.prints(0, 2, 0, 1), 2);
    }

    private static void othersRead() {
        PrintedByFrost x = withLetters(TOP, 0x0066, 0x0FF6, 0xF800);
        promise = 27;
        due("no panes", x.becomes(0), 0);
        x.pane(0, 0, 0);
        due("melts to the second", x.becomes(0), 2);
        due("not itself", x.becomes(1), 0);
        x.pane(5, 0, 2);
        due("LACE: the first is read as the third", x.becomes(0), 6);
        PrintedByFrost y = withLetters(0x000F, 0xF000, 0x0F0F, 0xFF00);
        y.pane(5, 0, 2);
        y.pane(0, 0, 0);
        y.pane(3, 9, 0);
        due("as the third on the first pane alone", y.becomes(0), 4);
        due("as the fourth on the first pane alone", y.becomes(1), 8);
        due("the first is read too", withMelted().becomes(1), 1);
        y.ask(2, 9);
        due("as the fourth at HOUR 0 alone", y.becomes(1), 8);
        due("becomes(4)", x.becomes(4), -1);
        due("becomes(NONE)", x.becomes(NONE), -1);
        promise = 29;
        due("just the shape", x.could(0, TOP, 0), 1);
        due("none", x.could(0, TOP ^ 1, 0), 0);
        due("nothing", x.could(0, 0, 0), 256);
        due("all at 24", x.could(0, 0, 24), 256 + 15);
        due("melted to the second's", x.could(0, 0x0066, 3), 1);
        due("LACE: nothing", x.could(1, 0x0F00, 0), 256);
        due("LACE: both that lack the row", x.could(1, 0x0FFF, 0), 1);
        due("shape 65536", x.could(0, 65536, 0), -6);
        due("shape -1", x.could(0, -1, 0), -6);
        due("hour 25", x.could(0, 0, 25), -6);
        due("hour -1", x.could(0, 0, -1), -6);
        due("no pane", x.could(2, -1, 0), -1);
        x.ask(0, 0);
        due("no frost", x.could(0, 0, 0), 256 + 15);
    }

    /** The second letter melts to what is read as the first. */
    private static PrintedByFrost withMelted() {
        PrintedByFrost x = withLetters(0x0066, TOP);
        x.pane(0, 0, 0);
        return x;
    }

    private static void forms() {
        PrintedByFrost x = withLetters(0x000F, 0xFFFF, 0x00F0, 0x001F, 0x00F1);
        promise = 30;
        due("unlike(0, 1)", x.unlike(0, 1), 12);
        due("unlike(1, 0)", x.unlike(1, 0), 12);
        due("unlike(2, 2)", x.unlike(2, 2), 0);
        due("unlike(0, 2)", x.unlike(0, 2), 8);
        due("unlike(0, 5)", x.unlike(0, 5), -1);
        due("unlike(-1, 0)", x.unlike(-1, 0), -1);
        promise = 31;
        due("of two the first", x.closest(), 3);
        due("none", new PrintedByFrost().closest(), -5);
        due("one", withLetters(5).closest(), -5);
        due("two", withLetters(5, 65535).closest(), 1);
        due("the last two", withLetters(0x00FF, 0xFF00, 0x0F0F, 0x0F0E).closest(), 23);
        due("two alike", withLetters(1, 2, 1, 2).closest(), 2);
        promise = 32;
        due("a cell taken away: 1 from 0 by any but the fifth", x.mend(0), 0);
        due("far from 3: any cell that both have", x.mend(3), 0);
        due("all ones: a cell that the nearest has", x.mend(1), 0);
        due("no better than now", withLetters(0, 65535, 255).mend(2), 0);
        due("the first that both lack", withLetters(0x0007, 0x0006).mend(0), 1);
        due("not the one that makes them alike", withLetters(0x0003, 0x0002).mend(1), 1);
        due("no other", withLetters(5).mend(0), -5);
        due("no letter", withLetters(5).mend(1), -1);
        due("no letter", x.mend(-1), -1);
    }

    private static void warmthAndCold() {
        PrintedByFrost x = withLetters(TOP, 0x0F00);
        x.pane(0, 0, 0);
        x.pane(3, 0, 4);
        promise = 33;
        due("any room at 0", x.stove(0, 0, 0), 9);
        // SHARP 5; outer cells lose 2 by MELT 1, 3 by MELT 2, and so on: MELT 4 ends them in one hour.
        due("1 hour", x.stove(0, 0, 1), 9);
        due("1 hour with OUT 9", x.ask(2, 9), 1);
        due("1 hour with OUT 9", x.stove(0, 0, 1), NONE);
        x.ask(2, 1);
        due("2 hours: MELT 1, ROOM 2", x.stove(0, 0, 2), 5);
        due("3 hours: outer cells gone", x.stove(0, 0, 3), 2);
        due("4 hours: all gone", x.stove(0, 0, 4), NONE);
        // THICK: SHARP 16 * 5 / 20 = 4; ROOM is the MELT but 1.
        due("STOVED, 1 hour", x.stove(1, 0, 1), 2);
        due("the room is as it was", x.paneOf(1, 1), 0);
        x.room(0, 9);
        x.ask(2, 2);
        due("3 hours with OUT 2", x.stove(0, 0, 3), NONE);
        due("2 hours with OUT 2: MELT 2", x.stove(0, 0, 2), 2);
        x.ask(2, 1);
        due("STOVED, 2 hours: no room but 0", x.stove(1, 0, 2), 0);
        due("hour 25", x.stove(0, 0, 25), -16);
        due("hour -1", x.stove(0, 0, -1), -16);
        due("no letter", x.stove(0, 2, 25), -11);
        due("NONE", x.stove(0, NONE, 0), -11);
        due("no pane", x.stove(2, 0, 25), -11);
        promise = 34;
        due("SHARP 1", x.chill(0, 0, 0), 4);
        due("THICK: 4 more", x.chill(1, 0, 0), 8);
        x.room(0, 0);
        due("2 hours", x.chill(0, 0, 2), 12);
        x.ask(1, 1);
        x.ask(2, 0);
        due("SHARP 1 of a little WET", x.chill(0, 0, 24), 20);
        x.ask(2, 1);
        x.pane(2, 0, 0);
        due("SHARP 2 by the most COLD there is", x.chill(2, 0, 1), 40);
        x.ask(1, 0);
        due("no WET", x.chill(0, 0, 0), NONE);
        due("the cold is as it was", x.status(2), 20);
        x.form(0);
        due("no CELLS at all: 0", x.chill(0, 2, 0), 0);
        due("hour 25", x.chill(0, 0, 25), -16);
        due("no letter", x.chill(0, 3, 25), -11);
        due("NONE", x.chill(0, NONE, 0), -11);
        due("no pane", x.chill(-1, 0, 0), -11);
        due("status(11)", x.status(11), 6);
        due("status(16)", x.status(16), 3);
    }

    private static void curtainsAndPapers() {
        PrintedByFrost x = withLetters(0x0F00, TOP);
        promise = 35;
        due("no panes", x.mistaken(), 0);
        x.pane(5, 0, 2);
        x.pane(5, 0, 3);
        x.pane(5, 0, 0);
        x.pane(5, 0, 6);
        due("laces: row 3 is like no letter, row 0 is 4 UNLIKE the second", x.mistaken(), 1 + 4 + 8);
        x.hang(3, 0);
        due("something hangs", x.mistaken(), 1 + 4);
        x.ask(0, 0);
        due("no frost: 4 UNLIKE the first, which hangs on one", x.mistaken(), 1 + 2 + 4);
        x.ask(0, 20);
        x.ask(2, 9);
        due("by HOUR 0, not 1", x.mistaken(), 1 + 4);
        PrintedByFrost y = withLetters(0x0003);
        y.pane(0, 0, 0);
        due("no CELLS are read as the letter", y.mistaken(), 1);
        y.hang(0, 0);
        due("it hangs there", y.mistaken(), 0);

        promise = 36;
        due("no panes", new PrintedByFrost().let(), 0);
        // A letter of 8 cells with SHARP 5: hours 0 to 2 by MELT 1 and its inner cells then 4 UNLIKE.
        PrintedByFrost z = withLetters(TOP, 0xFF00);
        z.pane(0, 0, 0);
        due("nothing hangs", z.let(), 0);
        z.hang(0, 0);
        int one = z.lasts(0, 0) + 1;
        due("one pane: all of it", z.let(), one);
        z.pane(3, 9, 0);
        z.hang(1, 0);
        due("the stoved one is worth 1", z.let(), one - 1);
        z.pane(0, 0, 0);
        z.hang(2, 1);
        due("the dearest first, then the like, then the least", z.let(), 1);
        z.pane(0, 0, 0);
        due("nothing for what hangs nowhere", z.let(), 1);
    }

    private static void nights() {
        PrintedByFrost x = withLetters(TOP, 0xFF00);
        x.pane(0, 0, 0);
        x.hang(0, 0);
        x.pane(3, 9, 0);
        x.hang(1, 1);
        promise = 39;
        due("no ICE at first", x.truth(0, 16), 0);
        promise = 49;
        due("HOUR at first", x.status(5), 24);
        promise = 38;
        due("hours(1) at 24", x.hours(1), -7);
        promise = 37;
        due("night()", x.night(), 3);
        due("HOUR", x.status(5), 0);
        due("EDITIONS", x.status(6), 1);
        promise = 39;
        due("ICE", x.truth(0, 0), 5);
        due("no ICE", x.truth(0, 8), 0);
        due("SHAPE", x.truth(0, 16), TOP);
        due("what 17", x.truth(0, 17), -5);
        due("what -1", x.truth(0, -1), -5);
        due("no pane", x.truth(2, 17), -1);
        promise = 40;
        due("readOf(0)", x.readOf(0), 0);
        due("readOf(2)", x.readOf(2), -11);
        due("readOf(-1)", x.readOf(-1), -11);
        promise = 38;
        due("hours(1)", x.hours(1), 1);
        due("ICE of an outer", x.truth(0, 0), 3);
        due("ICE of an inner", x.truth(0, 1), 4);
        due("STOVED: gone", x.truth(1, 16), 0);
        due("readOf(1)", x.readOf(1), NONE);
        due("hours(0)", x.hours(0), -6);
        due("hours(25)", x.hours(25), -6);
        due("hours(24)", x.hours(24), -7);
        x.pane(0, 0, 0);
        due("a new pane has none", x.truth(2, 16), 0);
        due("hours(2)", x.hours(2), 3);
        due("the inner ones are left", x.truth(0, 16), 0x0066);
        due("hours(21)", x.hours(21), 24);
        due("hours(MAX)", x.hours(MAX), -6);
        promise = 37;
        x.hang(0, NONE);
        x.hang(1, NONE);
        due("nothing hangs", x.night(), 0);
        due("the old ICE is gone", x.truth(1, 16), 0);
        due("no EDITION", x.status(6), 1);
        x.hang(0, 1);
        due("hung by day", x.truth(0, 16), 0);
        due("night()", x.night(), 1);
        due("EDITIONS", x.status(6), 2);
        promise = 38;
        x.pane(4, 0, 1);
        x.hang(3, 0);
        x.night();
        x.hours(1);
        due("SUNNY before a", x.truth(3, 1), 4);
        x.hours(1);
        due("SUNNY from a on", x.truth(3, 1), 0);
    }

    private static void breathAndScratches() {
        PrintedByFrost x = withLetters(65535, RING);
        x.pane(0, 0, 0);
        x.hang(0, 0);
        x.night();
        promise = 41;
        due("in the middle", x.breath(0, 5), 5);
        due("left", x.truth(0, 16), 0xFFFF & ~(1 << 1 | 1 << 4 | 1 << 5 | 1 << 6 | 1 << 9));
        due("once more", x.breath(0, 5), 0);
        due("a corner", x.breath(0, 15), 3);
        due("the row's end", x.breath(0, 3), 3);
        due("left", x.truth(0, 16), 0xFFFF & ~(1 << 1 | 1 << 4 | 1 << 5 | 1 << 6 | 1 << 9
                | 1 << 15 | 1 << 14 | 1 << 11 | 1 << 3 | 1 << 2 | 1 << 7));
        due("cell 16", x.breath(0, 16), -5);
        due("cell -1", x.breath(0, -1), -5);
        due("no pane", x.breath(1, 16), -1);
        x.night();
        due("a night brings it back", x.truth(0, 16), 0xFFFF);
        due("cell 12", x.breath(0, 12), 3);
        due("cell 0", x.breath(0, 0), 3);
        x.night();
        due("the row's end doesn't reach the next row", x.breath(0, 7), 4);
        due("nor its beginning the one above", x.breath(0, 12), 3);
        due("left", x.truth(0, 16), 0xFFFF & ~(1 << 7 | 1 << 3 | 1 << 6 | 1 << 11 | 1 << 12 | 1 << 8 | 1 << 13));
        x.night();
        due("cell 10", x.breath(0, 10), 5);
        due("left", x.truth(0, 16), 0xFFFF & ~(1 << 10 | 1 << 6 | 1 << 9 | 1 << 11 | 1 << 14));
        x.night();
        x.breath(0, 0);

        promise = 42;
        due("scratch(0, 6)", x.scratch(0, 6), 5);
        due("truth(0, 6)", x.truth(0, 6), 0);
        due("scratched", x.paneOf(0, 4), 1 << 6);
        due("twice", x.scratch(0, 6), -6);
        due("one without ICE", x.scratch(0, 0), 0);
        due("scratched", x.paneOf(0, 4), 1 << 6 | 1);
        due("cell 16", x.scratch(0, 16), -5);
        due("cell -1", x.scratch(0, -1), -5);
        due("no pane", x.scratch(1, 16), -1);
        x.night();
        due("nor by a night", x.truth(0, 16), 0xFFFF & ~(1 << 6 | 1));
        due("in thought neither", x.shape(0, 0, 0), 0xFFFF & ~(1 << 6 | 1));
        due("scratch(0, 15)", x.scratch(0, 15), 5);
        due("scratched", x.paneOf(0, 4), 1 << 6 | 1 | 1 << 15);
    }

    private static int draw(int[] seed, int n) {
        seed[0] = seed[0] * 1103515245 + 12345;
        return (seed[0] >>> 16) % n;
    }

    private static void winters() {
        PrintedByFrost x = withLetters(TOP);
        x.pane(0, 0, 0);
        x.hang(0, 0);
        promise = 44;
        due("seed(-77)", x.seed(-77), 1);
        due("seed(5)", x.seed(5), -77);
        promise = 43;
        due("winter(0)", x.winter(0), -6);
        due("winter(41)", x.winter(41), -6);
        due("winter(MIN)", x.winter(MIN), -6);
        due("SEED is as it was", x.status(7), 5);
        int[] seed = {5};
        for (int n = 1; n <= 40; n += 13) {
            int printed = 0;
            int cold = 0;
            int wet = 0;
            for (int i = 0; i < n; i++) {
                cold = draw(seed, 41);
                wet = draw(seed, 10);
                printed += cold * wet / 20 > 0 ? 1 : 0;
            }
            int before = x.status(6);
            due("winter(" + n + ")", x.winter(n), printed);
            due("EDITIONS", x.status(6), before + printed);
            due("COLD", x.status(2), cold);
            due("WET", x.status(3), wet);
            due("SEED", x.status(7), seed[0]);
            due("HOUR", x.status(5), 0);
            due("ICE", x.truth(0, 0), Math.min(20, cold * wet / 20));
        }
        due("winter(40)", x.winter(40) > 0 ? 1 : 0, 1);
    }

    private static void acts() {
        PrintedByFrost x = new PrintedByFrost();
        for (int kind = 0; kind < 7; kind++) {
            x.pane(kind, 0, kind + 2);
        }
        promise = 46;
        due("no act yet", x.trace(0), NONE);
        promise = 45;
        // freezes and melts of 10, by the number m = kind and k = kind + 2
        int[] freezes = {10, 10 + 1 + 3, 12, 13, 10 + 4 - 4, 10 + 5 + 7, (10 + 6) * 2};
        int[] melts = {20, 28, 72, (11 + 3) * 6, 20, 44, (10 - 8 + 1 + 6) * 2 * 6};
        int[] shows = {20 ^ 8, 28 ^ 11, 72 ^ 8, 84 ^ 8, -(20 ^ (10 - 6)), (44 ^ 15) ^ 5, 108 ^ 16};
        for (int p = 0; p < 7; p++) {
            due("freezes of kind " + p, x.act(p, 0, 10), freezes[p]);
            due("melts of kind " + p, x.act(p, 1, 10), melts[p]);
            due("shows of kind " + p, x.act(p, 2, 10), shows[p]);
        }
        due("wraps", x.act(6, 0, MAX), (MAX + 6) * 2);
        promise = 46;
        int[][] bodies = {{12, 11, 10, 10}, {12, 11, 20, 10, 20, 10}, {12, 30, 11, 10, 10},
            {12, 40, 30, 11, 10, 10}, {50, 12, 11, 51, 10, 51, 10}, {60, 12, 11, 20, 10, 20, 10},
            {12, 71, 40, 30, 11, 70, 10, 70, 10}};
        for (int p = 0; p < 7; p++) {
            x.act(p, 2, 0);
            for (int i = 0; i < bodies[p].length; i++) {
                due("trace(" + i + ") of kind " + p, x.trace(i), bodies[p][i]);
            }
            due("trace's end", x.trace(bodies[p].length), NONE);
            due("how many", x.status(8), bodies[p].length);
        }
        due("trace(-1)", x.trace(-1), NONE);
        due("trace(MAX)", x.trace(MAX), NONE);
        promise = 45;
        int[][] none = {{7, 0}, {-1, 0}, {0, 3}, {0, -1}};
        for (int[] one : none) {
            x.act(0, 1, 1);
            due("act(" + one[0] + ", " + one[1] + ")", x.act(one[0], one[1], 5), 0);
            due("no TRACE", x.trace(0), NONE);
            due("no bodies", x.status(8), 0);
        }
        due("nothing refused", x.status(11) + x.status(15) + x.status(16), 0);
    }

    private static void images() {
        PrintedByFrost x = withLetters(TOP, RING);
        promise = 48;
        due("restore() without an image", x.restore(), -6);
        x.pane(0, 1, 2);
        x.hang(0, 0);
        x.night();
        x.hours(1);
        x.scratch(0, 0);
        x.ask(2, 2);
        promise = 47;
        due("image()", x.image(), 1);
        x.form(LEFT);
        x.pane(5, 0, 0);
        x.hang(1, 0);
        x.scratch(1, 15);
        x.show(3, 1);
        x.show(4, NONE);
        x.hang(0, 1);
        x.room(0, 9);
        x.scratch(0, 1);
        x.breath(0, 6);
        x.winter(3);
        x.ask(2, 7);
        x.hours(9);
        x.seed(12);
        x.show(7, 0);
        x.show(0, 1);
        x.row(2, 0, 1);
        x.set(2, 0, 7);
        x.act(0, 0, 1);
        int refused = x.status(16);
        x.press(2);
        promise = 48;
        due("restore()", x.restore(), 1);
        due("letters", x.status(0), 2);
        due("panes", x.status(1), 1);
        due("COLD", x.status(2), 20);
        due("WET", x.status(3), 5);
        due("OUT", x.status(4), 2);
        due("HOUR", x.status(5), 1);
        due("EDITIONS", x.status(6), 1);
        due("SEED", x.status(7), 1);
        due("hangs", x.hangs(0), 0);
        due("ROOM", x.paneOf(0, 1), 1);
        due("a", x.paneOf(0, 2), 2);
        due("scratched", x.paneOf(0, 4), 1);
        due("ICE", x.truth(0, 1), 4);
        due("SHAPE", x.truth(0, 16), TOP ^ 1);
        due("a shelf with a pane that is", x.holds(7), 0);
        due("a shelf with a pane that isn't", x.holds(0), NONE);
        due("a shelf with a pane that isn't", x.holds(3), NONE);
        due("a shelf with a row", x.element(2, 0), 7);
        due("REFUSALS stay", x.status(16), refused + 1);
        due("the FAULT stays", x.fault(), 0);
        due("the TRACE stays", x.trace(0), 10);
        x.scratch(0, 2);
        x.hang(0, NONE);
        x.form(LEFT);
        due("restore() once more", x.restore(), 1);
        due("formOf(1)", x.formOf(1), RING);
        due("formOf(2)", x.formOf(2), -1);
        due("hangs", x.hangs(0), 0);
        due("scratched", x.paneOf(0, 4), 1);
        due("a new pane after it", x.pane(1, 0, 0), 1);
        due("nothing of the old one", x.paneOf(1, 4), 0);
        due("nothing of the old one", x.truth(1, 16), 0);
        due("nothing of the old one", x.hangs(1), NONE);
        x.hang(1, 0);
        x.night();
        int ice = x.truth(1, 0);
        x.image();
        x.hours(24);
        x.restore();
        due("ICE of CELL 0", x.truth(1, 0), ice);
        due("ICE of CELL 0", ice, 5);
        PrintedByFrost y = withLetters(TOP);
        y.image();
        y.pane(0, 0, 0);
        y.hang(0, 0);
        y.night();
        due("restore() of no panes", y.restore(), 0);
        y.pane(0, 0, 0);
        due("no ICE of the old one", y.truth(0, 16), 0);
    }

    private static void refusals() {
        PrintedByFrost x = new PrintedByFrost();
        promise = 49;
        int[] first = {0, 0, 20, 5, 1, 24, 0, 1, 0, NONE, NONE, 0, 0, 0, 0, 0, 0, 0, NONE};
        for (int what = 0; what < first.length; what++) {
            due("status(" + what + ")", x.status(what), first[what]);
        }
        x.row(9, 0, 0);
        x.pane(0, 0, 0);
        x.show(0, 0);
        x.set(0, 0, 0);
        x.press(0);
        x.set(1, 0, 0);
        x.row(0, 0, -1);
        x.closest();
        x.mend(0);
        x.reads(-5);
        x.hours(1);
        x.hangs(-1);
        due("status(11)", x.status(11), 3);
        due("status(12)", x.status(12), 2);
        due("status(13)", x.status(13), 1);
        due("status(14)", x.status(14), 1);
        due("status(15)", x.status(15), 1);
        due("status(16)", x.status(16), 1);
        due("status(17)", x.status(17), 1);
        int[] none = {-1, 9, 10, 18, MAX, MIN, -10};
        for (int what : none) {
            due("status(" + what + ")", x.status(what), NONE);
        }
        due("nothing refused by these", x.status(11), 3);
    }
}
