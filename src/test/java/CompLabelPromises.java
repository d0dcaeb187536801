import java.util.function.IntUnaryOperator;

// Hand-made pictures for each promise: ordinary inputs, the edges of the document, and wrong inputs.
public final class CompLabelPromises {
    private static final int BAD = -1;
    private static final int NONE = -2;
    private static final int MIN = Integer.MIN_VALUE;
    private static final int MAX = Integer.MAX_VALUE;

    private static final String[] SPECKLED = {
        ".#...",
        "#...#",
        "...##",
    };

    // A component with two holes: the left one holds a ring, the right one two dots. Two more
    // dots lie outside it, in the last row.
    private static final String[] NESTED = {
        "............",
        ".###########",
        ".#.....#...#",
        ".#.###.#.#.#",
        ".#.#.#.#...#",
        ".#.###.#.#.#",
        ".#.....#...#",
        ".###########",
        "............",
        "#..........#",
    };

    private static int wrong = 0;

    public static void main(String[] args) {
        newObject();
        setting();
        inverting();
        blackness();
        componentCounts();
        eulerNumbers();
        labels();
        areas();
        holeCounts();
        surrounders();
        depths();
        enclosures();
        readmeExample();
        System.out.println(wrong == 0 ? "all answers are as due" : wrong + " answers are not as due");
        if (wrong != 0) {
            System.exit(1);
        }
    }

    private static void due(int promise, String call, long got, long want) {
        if (got != want) {
            wrong++;
            System.out.println("promise " + promise + ": " + call + " answered " + got + ", due is " + want);
        }
    }

    private static void due(int promise, String call, boolean got, boolean want) {
        due(promise, call, got ? 1L : 0L, want ? 1L : 0L);
    }

    private static CompLabel draw(String... rows) {
        CompLabel picture = new CompLabel(rows[0].length(), rows.length);
        for (int y = 0; y < rows.length; y++) {
            for (int x = 0; x < rows[y].length(); x++) {
                if (rows[y].charAt(x) == '#') {
                    due(2, "set(" + x + ", " + y + ", true)", picture.set(x, y, true), true);
                }
            }
        }
        return picture;
    }

    private static void duePicture(int promise, String after, CompLabel picture, String... rows) {
        for (int y = 0; y < rows.length; y++) {
            for (int x = 0; x < rows[y].length(); x++) {
                String call = after + ": isBlack(" + x + ", " + y + ")";
                due(promise, call, picture.isBlack(x, y), rows[y].charAt(x) == '#');
            }
        }
    }

    private static void newObject() {
        dueSize(2, 2, 2, 2);
        dueSize(12, 12, 12, 12);
        dueSize(3, 11, 3, 11);
        dueSize(1, 13, 2, 12);
        dueSize(13, 1, 12, 2);
        dueSize(0, -1, 2, 2);
        dueSize(MIN, MAX, 2, 12);
        dueSize(MAX, MIN, 12, 2);
    }

    private static void dueSize(int columns, int rows, int width, int height) {
        String made = "CompLabel(" + columns + ", " + rows + "): ";
        CompLabel picture = new CompLabel(columns, rows);
        due(1, made + "components()", picture.components(), 0);
        due(1, made + "euler()", picture.euler(), 0);
        due(1, made + "area(0)", picture.area(0), BAD);
        for (int y = 0; y < height; y++) {
            for (int x = 0; x < width; x++) {
                due(1, made + "isBlack(" + x + ", " + y + ")", picture.isBlack(x, y), false);
                due(1, made + "label(" + x + ", " + y + ")", picture.label(x, y), NONE);
            }
        }
        due(1, made + "depth at last", picture.depth(width - 1, height - 1), 0);
        due(1, made + "depth past columns", picture.depth(width, height - 1), BAD);
        due(1, made + "depth past rows", picture.depth(width - 1, height), BAD);
        due(1, made + "set at last", picture.set(width - 1, height - 1, true), true);
        due(1, made + "set past columns", picture.set(width, 0, true), false);
        due(1, made + "set past rows", picture.set(0, height, true), false);
    }

    private static void setting() {
        CompLabel picture = new CompLabel(4, 3);
        int[] wrongX = {-1, 4, MIN, MAX};
        int[] wrongY = {-1, 3, MIN, MAX};
        for (int x : wrongX) {
            due(2, "set(" + x + ", 0, true)", picture.set(x, 0, true), false);
        }
        for (int y : wrongY) {
            due(2, "set(0, " + y + ", true)", picture.set(0, y, true), false);
        }
        due(2, "set(-1, -1, true)", picture.set(-1, -1, true), false);
        duePicture(2, "after refused calls", picture, "....", "....", "....");
        due(2, "components() after refused calls", picture.components(), 0);
        due(2, "set(0, 0, true)", picture.set(0, 0, true), true);
        due(2, "set(3, 2, true)", picture.set(3, 2, true), true);
        due(2, "set(3, 0, false) of a white one", picture.set(3, 0, false), true);
        due(2, "set(0, 0, true) of a black one", picture.set(0, 0, true), true);
        duePicture(2, "after sets", picture, "#...", "....", "...#");
        due(2, "set(0, 0, false)", picture.set(0, 0, false), true);
        due(2, "set(4, 2, false)", picture.set(4, 2, false), false);
        duePicture(2, "after whitening", picture, "....", "....", "...#");
        due(2, "components() after whitening", picture.components(), 1);
    }

    private static void inverting() {
        CompLabel picture = draw("#....", ".....", "....#");
        int[][] refused = {
            {-1, 0, 1, 1}, {5, 0, 1, 1}, {0, -1, 1, 1}, {0, 3, 1, 1}, {MIN, 0, 1, 1}, {0, MAX, 1, 1},
            {0, 0, 0, 1}, {0, 0, 1, 0}, {0, 0, -1, 1}, {0, 0, 1, -1}, {0, 0, 6, 1}, {0, 0, 1, 4},
            {4, 0, 2, 1}, {0, 2, 1, 2}, {2, 1, 4, 1}, {2, 1, 1, 3}, {0, 0, MAX, 1}, {0, 0, 1, MAX},
            {1, 1, MAX, MAX}, {1, 0, MAX, 1}, {0, 1, 1, MAX},
            {0, 0, MIN, 1}, {0, 0, 1, MIN}, {-1, 0, 2, 1}, {0, -1, 1, 2}, {5, 0, 0, 1},
            {MIN, MIN, MIN, MIN}, {MAX, MAX, MAX, MAX},
        };
        for (int[] r : refused) {
            String call = "invert(" + r[0] + ", " + r[1] + ", " + r[2] + ", " + r[3] + ")";
            due(3, call, picture.invert(r[0], r[1], r[2], r[3]), false);
            due(3, call + " leaves components()", picture.components(), 2);
        }
        duePicture(3, "after refused calls", picture, "#....", ".....", "....#");
        due(3, "invert(0, 0, 5, 3)", picture.invert(0, 0, 5, 3), true);
        duePicture(3, "after invert of all", picture, ".####", "#####", "####.");
        due(3, "components() after invert of all", picture.components(), 1);
        due(3, "invert(1, 1, 3, 1)", picture.invert(1, 1, 3, 1), true);
        duePicture(3, "after invert inside", picture, ".####", "#...#", "####.");
        due(3, "holes(0) after invert inside", picture.holes(0), 1);
        due(3, "invert(3, 0, 2, 3)", picture.invert(3, 0, 2, 3), true);
        duePicture(3, "after invert at the right", picture, ".##..", "#..#.", "###.#");
        due(3, "invert(4, 2, 1, 1)", picture.invert(4, 2, 1, 1), true);
        duePicture(3, "after invert of the last", picture, ".##..", "#..#.", "###..");
    }

    private static void blackness() {
        CompLabel picture = new CompLabel(3, 4);
        picture.invert(0, 0, 3, 4);
        duePicture(4, "all black", picture, "###", "###", "###", "###");
        int[][] outside = {{-1, 0}, {0, -1}, {3, 0}, {0, 4}, {3, 4}, {-1, -1}, {MIN, 0}, {0, MAX}, {MAX, MIN}};
        for (int[] at : outside) {
            due(4, "isBlack(" + at[0] + ", " + at[1] + ")", picture.isBlack(at[0], at[1]), false);
        }
        picture.set(2, 3, false);
        duePicture(4, "last white", picture, "###", "###", "###", "##.");
    }

    private static void componentCounts() {
        due(5, "components() of white", new CompLabel(2, 2).components(), 0);
        due(5, "components() of a dot", draw("..", ".#").components(), 1);
        due(5, "components() of a diagonal", draw("#..", ".#.", "..#").components(), 1);
        due(5, "components() of a counter-diagonal", draw("..#", ".#.", "#..").components(), 1);
        due(5, "components() of a hook to the left", draw("...#", "#.#.", ".#..").components(), 1);
        due(5, "components() of a hook to the right", draw("#...", ".#.#", "..#.").components(), 1);
        due(5, "components() with gaps", draw("#.#", "...", "#.#").components(), 4);
        due(5, "components() across row ends", draw("..#", "#..").components(), 2);
        due(5, "components() of speckled", draw(SPECKLED).components(), 2);
        due(5, "components() of nested", draw(NESTED).components(), 6);
        CompLabel dots = new CompLabel(12, 12);
        for (int y = 0; y < 12; y += 2) {
            for (int x = 0; x < 12; x += 2) {
                dots.set(x, y, true);
            }
        }
        due(5, "components() of most dots", dots.components(), 36);
        due(5, "label(10, 10) of most dots", dots.label(10, 10), 35);
    }

    private static void eulerNumbers() {
        due(6, "euler() of white", new CompLabel(12, 12).euler(), 0);
        due(6, "euler() of black", draw("##", "##").euler(), 1);
        due(6, "euler() of a ring", draw("###", "#.#", "###").euler(), 0);
        due(6, "euler() of a diamond", draw(".#.", "#.#", ".#.").euler(), 0);
        due(6, "euler() of an open ring", draw("###", "#.#", "#.#").euler(), 1);
        due(6, "euler() of a corner cut off", draw(".#", "#.").euler(), 1);
        due(6, "euler() of white cornerwise", draw("####", "##.#", "#.##", "####").euler(), -1);
        due(6, "euler() of nested", draw(NESTED).euler(), 6 - 3);
        CompLabel board = new CompLabel(12, 12);
        for (int y = 0; y < 12; y++) {
            for (int x = y % 2; x < 12; x += 2) {
                board.set(x, y, true);
            }
        }
        due(6, "euler() of a chessboard", board.euler(), 1 - 50);
    }

    private static void labels() {
        CompLabel picture = draw(SPECKLED);
        due(7, "label(1, 0)", picture.label(1, 0), 0);
        due(7, "label(0, 1)", picture.label(0, 1), 0);
        due(7, "label(4, 1)", picture.label(4, 1), 1);
        due(7, "label(3, 2)", picture.label(3, 2), 1);
        due(7, "label(4, 2)", picture.label(4, 2), 1);
        due(7, "label(0, 0)", picture.label(0, 0), NONE);
        due(7, "label(2, 1)", picture.label(2, 1), NONE);
        int[][] outside = {{-1, 1}, {5, 1}, {1, -1}, {1, 3}, {MIN, 0}, {MAX, 0}, {0, MIN}, {0, MAX}};
        for (int[] at : outside) {
            due(7, "label(" + at[0] + ", " + at[1] + ")", picture.label(at[0], at[1]), BAD);
        }
        // The first pixel counts, by rows: the left component starts lower than the right one.
        CompLabel late = draw("...#", "#...", "#..#", "##..");
        due(7, "label(3, 0) before the left one", late.label(3, 0), 0);
        due(7, "label(0, 1) after the right one", late.label(0, 1), 1);
        due(7, "label(1, 3) after the right one", late.label(1, 3), 1);
        due(7, "label(3, 2) last", late.label(3, 2), 2);
        // Two arms that meet only further down are one component, and take one number.
        CompLabel arms = draw("#.#.#", "#.#.#", "###.#");
        due(7, "label(2, 0) of the second arm", arms.label(2, 0), 0);
        due(7, "label(4, 0) beside the arms", arms.label(4, 0), 1);
        arms.set(0, 2, false);
        arms.set(1, 2, false);
        due(7, "label(2, 0) after the parting", arms.label(2, 0), 1);
        due(7, "label(4, 2) after the parting", arms.label(4, 2), 2);
        CompLabel nested = draw(NESTED);
        due(7, "label(11, 7) of nested", nested.label(11, 7), 0);
        due(7, "label(3, 3) of nested", nested.label(3, 3), 1);
        due(7, "label(9, 3) of nested", nested.label(9, 3), 2);
        due(7, "label(4, 4) of nested", nested.label(4, 4), NONE);
        due(7, "label(9, 5) of nested", nested.label(9, 5), 3);
        due(7, "label(0, 9) of nested", nested.label(0, 9), 4);
        due(7, "label(11, 9) of nested", nested.label(11, 9), 5);
    }

    private static void dueBadComponent(int promise, String name, IntUnaryOperator call, int count) {
        int[] missing = {-1, count, count + 1, NONE, MIN, MAX, 196, 1000};
        for (int k : missing) {
            due(promise, name + "(" + k + ")", call.applyAsInt(k), BAD);
        }
    }

    private static void areas() {
        CompLabel picture = draw(SPECKLED);
        due(8, "area(0)", picture.area(0), 2);
        due(8, "area(1)", picture.area(1), 3);
        dueBadComponent(8, "area", picture::area, 2);
        dueBadComponent(8, "area of white", new CompLabel(5, 5)::area, 0);
        picture.set(4, 2, false);
        due(8, "area(1) after whitening", picture.area(1), 2);
        picture.set(3, 2, false);
        picture.set(4, 1, false);
        due(8, "area(1) after its end", picture.area(1), BAD);
        CompLabel full = new CompLabel(12, 12);
        full.invert(0, 0, 12, 12);
        due(8, "area(0) of black", full.area(0), 144);
    }

    private static void holeCounts() {
        CompLabel nested = draw(NESTED);
        int[] want = {2, 1, 0, 0, 0, 0};
        for (int k = 0; k < want.length; k++) {
            due(9, "holes(" + k + ") of nested", nested.holes(k), want[k]);
        }
        dueBadComponent(9, "holes of nested", nested::holes, 6);
        dueBadComponent(9, "holes of white", new CompLabel(2, 12)::holes, 0);
        due(9, "holes(0) of black", draw("##", "##").holes(0), 0);
        due(9, "holes(0) of white cornerwise", draw("####", "##.#", "#.##", "####").holes(0), 2);
        due(9, "holes(0) of a bay", draw("###", "#.#", "#.#").holes(0), 0);
        // The picture's edge closes nothing.
        due(9, "holes(0) at the edge", draw(".##", "#..", "#..").holes(0), 0);
    }

    private static void surrounders() {
        CompLabel nested = draw(NESTED);
        int[] want = {NONE, 0, 0, 0, NONE, NONE};
        for (int k = 0; k < want.length; k++) {
            due(10, "around(" + k + ") of nested", nested.around(k), want[k]);
        }
        dueBadComponent(10, "around of nested", nested::around, 6);
        dueBadComponent(10, "around of white", new CompLabel(3, 3)::around, 0);
        nested.set(1, 4, false);
        due(10, "around(1) of the opened ring", nested.around(1), NONE);
        due(10, "around(2) of the opened ring", nested.around(2), 0);
        CompLabel rings = rings();
        due(10, "around(0) of rings", rings.around(0), NONE);
        due(10, "around(1) of rings", rings.around(1), 0);
        due(10, "around(2) of rings", rings.around(2), 1);
        dueBadComponent(10, "around of rings", rings::around, 3);
        // The surrounding component need not be number 0.
        CompLabel second = draw("#......", "..#####", "..#...#", "..#.#.#", "..#...#", "..#####");
        due(10, "around(0) beside a ring", second.around(0), NONE);
        due(10, "around(1) of the ring", second.around(1), NONE);
        due(10, "around(2) in the ring", second.around(2), 1);
    }

    private static CompLabel rings() {
        CompLabel picture = new CompLabel(12, 12);
        for (int inset = 0; inset < 6; inset++) {
            picture.invert(inset, inset, 12 - 2 * inset, 12 - 2 * inset);
        }
        return picture;
    }

    private static void depths() {
        CompLabel rings = rings();
        for (int at = 0; at < 12; at++) {
            int want = at < 6 ? at + 1 : 12 - at;
            due(11, "depth(" + at + ", " + at + ") of rings", rings.depth(at, at), want);
            due(11, "depth(" + at + ", 5) of rings", rings.depth(at, 5), want);
        }
        rings.set(0, 7, false);
        due(11, "depth(5, 5) of opened rings", rings.depth(5, 5), 4);
        due(11, "depth(0, 0) of opened rings", rings.depth(0, 0), 1);
        due(11, "depth(1, 1) of opened rings", rings.depth(1, 1), 0);
        CompLabel diamond = draw(".#.", "#.#", ".#.");
        due(11, "depth(1, 1) of a diamond", diamond.depth(1, 1), 2);
        due(11, "depth(0, 0) of a diamond", diamond.depth(0, 0), 0);
        due(11, "depth(1, 0) of a diamond", diamond.depth(1, 0), 1);
        // Reached cornerwise only through its own component, which is at the edge.
        CompLabel tail = draw("#...", ".#..", "..#.", "....");
        due(11, "depth(2, 2) of a tail", tail.depth(2, 2), 1);
        int[][] outside = {{-1, 0}, {3, 0}, {0, -1}, {0, 3}, {MIN, 1}, {MAX, 1}, {1, MIN}, {1, MAX}};
        for (int[] at : outside) {
            due(11, "depth(" + at[0] + ", " + at[1] + ")", diamond.depth(at[0], at[1]), BAD);
        }
    }

    private static void enclosures() {
        CompLabel nested = draw(NESTED);
        int[] want = {5 * 5 + 3 * 5, 1, 0, 0, 0, 0};
        for (int k = 0; k < want.length; k++) {
            due(12, "enclosed(" + k + ") of nested", nested.enclosed(k), want[k]);
        }
        dueBadComponent(12, "enclosed of nested", nested::enclosed, 6);
        dueBadComponent(12, "enclosed of white", new CompLabel(4, 4)::enclosed, 0);
        CompLabel rings = rings();
        due(12, "enclosed(0) of rings", rings.enclosed(0), 100);
        due(12, "enclosed(1) of rings", rings.enclosed(1), 36);
        due(12, "enclosed(2) of rings", rings.enclosed(2), 4);
        due(12, "enclosed(0) of black", draw("##", "##").enclosed(0), 0);
        // A bay at the last row is open to the places outside the picture.
        due(12, "enclosed(0) of a bay", draw("####", "#..#", "#..#").enclosed(0), 0);
        due(12, "enclosed(0) of white cornerwise", draw("####", "##.#", "#.##", "####").enclosed(0), 2);
        // A corner is enough to close a ring: no way leads through it.
        CompLabel lid = draw("#####.", "#...#.", "#....#", "#...#.", "#####.");
        due(12, "enclosed(0) cornerwise closed", lid.enclosed(0), 10);
        lid.set(5, 2, false);
        due(12, "enclosed(0) opened", lid.enclosed(0), 0);
    }

    // The calls of the README's example, in its order.
    private static void readmeExample() {
        CompLabel picture = new CompLabel(5, 5);
        due(3, "README: invert(0, 0, 5, 5)", picture.invert(0, 0, 5, 5), true);
        due(3, "README: invert(1, 1, 3, 3)", picture.invert(1, 1, 3, 3), true);
        due(2, "README: set(2, 2, true)", picture.set(2, 2, true), true);
        due(2, "README: set(5, 2, true)", picture.set(5, 2, true), false);
        due(4, "README: isBlack(1, 1)", picture.isBlack(1, 1), false);
        due(5, "README: components()", picture.components(), 2);
        due(6, "README: euler()", picture.euler(), 1);
        due(7, "README: label(2, 2)", picture.label(2, 2), 1);
        due(7, "README: label(1, 1)", picture.label(1, 1), NONE);
        due(8, "README: area(0)", picture.area(0), 16);
        due(9, "README: holes(0)", picture.holes(0), 1);
        due(10, "README: around(1)", picture.around(1), 0);
        due(10, "README: around(0)", picture.around(0), NONE);
        due(11, "README: depth(2, 2)", picture.depth(2, 2), 3);
        due(12, "README: enclosed(0)", picture.enclosed(0), 9);
        due(8, "README: area(2)", picture.area(2), BAD);
    }
}
