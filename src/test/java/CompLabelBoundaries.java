import java.util.ArrayList;
import java.util.List;

// One test for each sentence of the document that names a boundary case. Names of tests as
// arguments run those alone.
public final class CompLabelBoundaries {
    private static final int BAD = -1;
    private static final int NONE = -2;
    private static final int MIN = Integer.MIN_VALUE;
    private static final int MAX = Integer.MAX_VALUE;
    private static final int LEAST = 2;
    private static final int GREATEST = 12;
    private static final int CALLS = 512;

    // Component 0 has two holes: the left one holds ring 1, which holds dot 2, and the right one is
    // empty. Component 3 lies outside.
    private static final String[] NESTED = {
        "############",
        "#.......#..#",
        "#.#####.#..#",
        "#.#...#.#..#",
        "#.#.#.#.#..#",
        "#.#...#.#..#",
        "#.#####.#..#",
        "#.......#..#",
        "############",
        "............",
        ".......##...",
    };

    private static final String[] SMALL = {
        "###..",
        "#.#..",
        "###.#",
        "....#",
    };

    private static String[] chosen;
    private static String running;
    private static int wrong;
    private static int asked;

    public static void main(String[] args) {
        chosen = args;
        whatItIs();
        terms();
        promises1To4();
        promises5To8();
        promises9To12();
        System.out.println(wrong == 0 ? "all answers are as due" : wrong + " answers are not as due");
        if (wrong != 0) {
            System.exit(1);
        }
    }

    private static void whatItIs() {
        test("call512AfterChanges", CompLabelBoundaries::call512AfterChanges);
        test("call512AfterRefusals", CompLabelBoundaries::call512AfterRefusals);
        test("call512AfterQuestions", CompLabelBoundaries::call512AfterQuestions);
    }

    private static void terms() {
        test("outsideIsWhite", CompLabelBoundaries::outsideIsWhite);
        test("nearAtEdge", CompLabelBoundaries::nearAtEdge);
        test("besideAtEdge", CompLabelBoundaries::besideAtEdge);
        test("stepAtEdge", CompLabelBoundaries::stepAtEdge);
        test("outerRegion", CompLabelBoundaries::outerRegion);
        test("numberedByFirstPixels", CompLabelBoundaries::numberedByFirstPixels);
        test("depthZeroExactlyOutside", CompLabelBoundaries::depthZeroExactlyOutside);
        test("holeOfJustOne", CompLabelBoundaries::holeOfJustOne);
    }

    private static void promises1To4() {
        test("newColumnsTooSmall", CompLabelBoundaries::newColumnsTooSmall);
        test("newColumnsTooLarge", CompLabelBoundaries::newColumnsTooLarge);
        test("newRowsTooSmall", CompLabelBoundaries::newRowsTooSmall);
        test("newRowsTooLarge", CompLabelBoundaries::newRowsTooLarge);
        test("newSidesKept", CompLabelBoundaries::newSidesKept);
        test("newAllWhite", CompLabelBoundaries::newAllWhite);
        test("setOutsideX", CompLabelBoundaries::setOutsideX);
        test("setOutsideY", CompLabelBoundaries::setOutsideY);
        test("setElseTrue", CompLabelBoundaries::setElseTrue);
        test("setRefusedChangesNothing", CompLabelBoundaries::setRefusedChangesNothing);
        test("invertOutsideX", CompLabelBoundaries::invertOutsideX);
        test("invertOutsideY", CompLabelBoundaries::invertOutsideY);
        test("invertWrongWide", CompLabelBoundaries::invertWrongWide);
        test("invertWrongHigh", CompLabelBoundaries::invertWrongHigh);
        test("invertWrapAround", CompLabelBoundaries::invertWrapAround);
        test("invertElseTrue", CompLabelBoundaries::invertElseTrue);
        test("invertRefusedChangesNothing", CompLabelBoundaries::invertRefusedChangesNothing);
        test("invertWholePicture", CompLabelBoundaries::invertWholePicture);
        test("isBlackOutside", CompLabelBoundaries::isBlackOutside);
    }

    private static void promises5To8() {
        test("componentsAllWhite", CompLabelBoundaries::componentsAllWhite);
        test("componentsAllBlack", CompLabelBoundaries::componentsAllBlack);
        test("eulerAllWhite", CompLabelBoundaries::eulerAllWhite);
        test("eulerAllBlack", CompLabelBoundaries::eulerAllBlack);
        test("labelWhite", CompLabelBoundaries::labelWhite);
        test("labelOutside", CompLabelBoundaries::labelOutside);
        test("areaNoSuchComponent", CompLabelBoundaries::areaNoSuchComponent);
    }

    private static void promises9To12() {
        test("holesNoSuchComponent", CompLabelBoundaries::holesNoSuchComponent);
        test("aroundNoSuchComponent", CompLabelBoundaries::aroundNoSuchComponent);
        test("aroundAtDepthOne", CompLabelBoundaries::aroundAtDepthOne);
        test("depthWhereOuterReaches", CompLabelBoundaries::depthWhereOuterReaches);
        test("depthOutside", CompLabelBoundaries::depthOutside);
        test("enclosedNoSuchComponent", CompLabelBoundaries::enclosedNoSuchComponent);
        test("enclosedNoHole", CompLabelBoundaries::enclosedNoHole);
        test("enclosedAtAnyDepth", CompLabelBoundaries::enclosedAtAnyDepth);
    }

    private static void test(String name, Runnable body) {
        if (chosen.length > 0 && !List.of(chosen).contains(name)) {
            return;
        }
        running = name;
        asked = 0;
        body.run();
        if (asked == 0) {
            wrong++;
            System.out.println(name + ": asked nothing");
        }
    }

    private static void due(String call, Object got, Object want) {
        asked++;
        if (!got.equals(want)) {
            wrong++;
            System.out.println(running + ": " + call + " answered " + got + ", due is " + want);
        }
    }

    // An object with what was called on it, so that no test leans on an answer after call 512.
    private static final class Picture {
        private final CompLabel object;
        private final String made;
        private final int width;
        private final int height;
        private int calls;

        Picture(int columns, int rows) {
            object = new CompLabel(columns, rows);
            made = "CompLabel(" + columns + ", " + rows + ")";
            width = Math.max(LEAST, Math.min(GREATEST, columns));
            height = Math.max(LEAST, Math.min(GREATEST, rows));
        }

        static Picture drawn(String... rows) {
            Picture picture = new Picture(rows[0].length(), rows.length);
            for (int y = 0; y < rows.length; y++) {
                for (int x = 0; x < rows[y].length(); x++) {
                    if (rows[y].charAt(x) == '#') {
                        picture.count();
                        picture.object.set(x, y, true);
                    }
                }
            }
            return picture;
        }

        static Picture black(int columns, int rows) {
            Picture picture = new Picture(columns, rows);
            picture.count();
            picture.object.invert(0, 0, picture.width, picture.height);
            return picture;
        }

        private void count() {
            calls++;
            if (calls > CALLS) {
                throw new IllegalStateException(running + ": more than " + CALLS + " calls on one object");
            }
        }

        private void answered(String call, Object got, Object want) {
            count();
            due(made + ", call " + calls + ": " + call, got, want);
        }

        void set(int x, int y, boolean black, boolean want) {
            answered("set(" + x + ", " + y + ", " + black + ")", object.set(x, y, black), want);
        }

        void invert(int x, int y, int wide, int high, boolean want) {
            String call = "invert(" + x + ", " + y + ", " + wide + ", " + high + ")";
            answered(call, object.invert(x, y, wide, high), want);
        }

        void isBlack(int x, int y, boolean want) {
            answered("isBlack(" + x + ", " + y + ")", object.isBlack(x, y), want);
        }

        void components(int want) {
            answered("components()", object.components(), want);
        }

        void euler(int want) {
            answered("euler()", object.euler(), want);
        }

        void label(int x, int y, int want) {
            answered("label(" + x + ", " + y + ")", object.label(x, y), want);
        }

        void area(int k, int want) {
            answered("area(" + k + ")", object.area(k), want);
        }

        void holes(int k, int want) {
            answered("holes(" + k + ")", object.holes(k), want);
        }

        void around(int k, int want) {
            answered("around(" + k + ")", object.around(k), want);
        }

        void depth(int x, int y, int want) {
            answered("depth(" + x + ", " + y + ")", object.depth(x, y), want);
        }

        void enclosed(int k, int want) {
            answered("enclosed(" + k + ")", object.enclosed(k), want);
        }

        boolean atEdge(int x, int y) {
            return x == 0 || x == width - 1 || y == 0 || y == height - 1;
        }

        // What each question about the picture answers.
        List<Integer> answers() {
            List<Integer> all = new ArrayList<>();
            int count = counted(object.components());
            all.add(count);
            all.add(counted(object.euler()));
            for (int y = 0; y < height; y++) {
                for (int x = 0; x < width; x++) {
                    all.add(counted(object.isBlack(x, y) ? 1 : 0));
                    all.add(counted(object.label(x, y)));
                    all.add(counted(object.depth(x, y)));
                }
            }
            for (int k = 0; k <= count; k++) {
                all.add(counted(object.area(k)));
                all.add(counted(object.holes(k)));
                all.add(counted(object.around(k)));
                all.add(counted(object.enclosed(k)));
            }
            return all;
        }

        private int counted(int answer) {
            count();
            return answer;
        }
    }

    private interface Question {
        void ask(Picture picture);
    }

    private interface SizeTest {
        void of(int width, int height);
    }

    private static void forEachSize(SizeTest body) {
        for (int width = LEAST; width <= GREATEST; width++) {
            for (int height = LEAST; height <= GREATEST; height++) {
                body.of(width, height);
            }
        }
    }

    private static boolean near(int x, int y, int x2, int y2) {
        return Math.abs(x - x2) <= 1 && Math.abs(y - y2) <= 1 && !(x == x2 && y == y2);
    }

    private static boolean beside(int x, int y, int x2, int y2) {
        return Math.abs(x - x2) + Math.abs(y - y2) == 1;
    }

    private interface PairTest {
        void of(int x, int y, int x2, int y2);
    }

    // Each two pixels once, the first one first in the order of the document.
    private static void forEachPair(int width, int height, PairTest body) {
        for (int first = 0; first < width * height; first++) {
            for (int second = first + 1; second < width * height; second++) {
                body.of(first % width, first / width, second % width, second / width);
            }
        }
    }

    // What it is: at most 512 calls after the object has been made.

    // Each answer as due in the picture NESTED.
    private static List<Question> questions() {
        List<Question> all = new ArrayList<>();
        all.add(p -> p.isBlack(4, 4, true));
        all.add(p -> p.isBlack(1, 1, false));
        all.add(p -> p.components(4));
        all.add(p -> p.euler(4 - 3));
        all.add(p -> p.label(8, 10, 3));
        all.add(p -> p.label(0, 9, NONE));
        all.add(p -> p.area(1, 16));
        all.add(p -> p.holes(0, 2));
        all.add(p -> p.around(2, 1));
        all.add(p -> p.depth(4, 4, 5));
        all.add(p -> p.enclosed(0, 63));
        return all;
    }

    private static List<Question> lastCalls() {
        List<Question> all = questions();
        all.add(p -> p.set(0, 9, true, true));
        all.add(p -> p.set(12, 9, true, false));
        all.add(p -> p.invert(0, 0, 12, 11, true));
        all.add(p -> p.invert(0, 0, 12, 12, false));
        return all;
    }

    private static void call512AfterChanges() {
        for (Question last : lastCalls()) {
            Picture picture = Picture.drawn(NESTED);
            while (picture.calls < CALLS - 2) {
                picture.invert(0, 0, 12, 11, true);
                picture.invert(0, 0, 12, 11, true);
            }
            while (picture.calls < CALLS - 1) {
                picture.set(4, 4, true, true);
            }
            last.ask(picture);
            due("calls made", picture.calls, CALLS);
        }
    }

    private static void call512AfterRefusals() {
        for (Question last : lastCalls()) {
            Picture picture = Picture.drawn(NESTED);
            while (picture.calls < CALLS - 1) {
                picture.set(12, picture.calls, true, false);
            }
            last.ask(picture);
            due("calls made", picture.calls, CALLS);
        }
    }

    private static void call512AfterQuestions() {
        List<Question> questions = questions();
        for (Question last : lastCalls()) {
            Picture picture = Picture.drawn(NESTED);
            while (picture.calls < CALLS - 1) {
                questions.get(picture.calls % questions.size()).ask(picture);
            }
            last.ask(picture);
            due("calls made", picture.calls, CALLS);
        }
    }

    // Terms: all places outside the picture count as white.
    private static void outsideIsWhite() {
        forEachSize((width, height) -> {
            for (int y = 0; y < height; y++) {
                for (int x = 0; x < width; x++) {
                    Picture black = Picture.black(width, height);
                    // One change of colour leads in from the white places outside.
                    black.depth(x, y, 1);
                    black.set(x, y, false, true);
                    boolean open = black.atEdge(x, y);
                    black.depth(x, y, open ? 0 : 2);
                    black.components(1);
                    black.euler(open ? 1 : 0);
                    black.holes(0, open ? 0 : 1);
                    black.enclosed(0, open ? 0 : 1);
                }
            }
        });
        // Were the places outside black, they would join these two dots.
        Picture dots = Picture.drawn("#.#", "...", "...");
        dots.components(2);
        dots.euler(2);
    }

    // Terms: near, at the picture's edge.
    private static void nearAtEdge() {
        int[][] sizes = {{2, 2}, {3, 2}, {2, 3}, {5, 4}, {12, 2}, {2, 12}, {12, 12}};
        for (int[] size : sizes) {
            forEachPair(size[0], size[1], (x, y, x2, y2) -> {
                Picture picture = new Picture(size[0], size[1]);
                picture.set(x, y, true, true);
                picture.set(x2, y2, true, true);
                picture.components(near(x, y, x2, y2) ? 1 : 2);
            });
        }
    }

    // Terms: beside, at the picture's edge.
    private static void besideAtEdge() {
        // Two white pixels can't part the black ones of pictures as great as these.
        int[][] sizes = {{3, 3}, {5, 4}, {4, 5}, {12, 3}, {3, 12}, {12, 12}};
        for (int[] size : sizes) {
            forEachPair(size[0], size[1], (x, y, x2, y2) -> {
                Picture picture = Picture.black(size[0], size[1]);
                picture.set(x, y, false, true);
                picture.set(x2, y2, false, true);
                boolean joined = beside(x, y, x2, y2);
                boolean open = picture.atEdge(x, y);
                boolean open2 = picture.atEdge(x2, y2);
                picture.depth(x, y, open || (joined && open2) ? 0 : 2);
                picture.depth(x2, y2, open2 || (joined && open) ? 0 : 2);
                int regions = joined ? (open || open2 ? 0 : 1) : (open ? 0 : 1) + (open2 ? 0 : 1);
                picture.components(1);
                picture.euler(1 - regions);
            });
        }
    }

    // Terms: a step, at the picture's edge: black ones lead near, white ones only beside.
    private static void stepAtEdge() {
        forEachSize((width, height) -> {
            int right = width - 1;
            int bottom = height - 1;
            int[][] corners = {{0, 0}, {right, 0}, {0, bottom}, {right, bottom}};
            for (int[] corner : corners) {
                int inX = corner[0] == 0 ? 1 : right - 1;
                int inY = corner[1] == 0 ? 1 : bottom - 1;
                Picture dots = new Picture(width, height);
                dots.set(corner[0], corner[1], true, true);
                dots.set(inX, inY, true, true);
                dots.components(1);
                dots.label(inX, inY, 0);
                Picture gaps = Picture.black(width, height);
                gaps.set(corner[0], corner[1], false, true);
                gaps.set(inX, inY, false, true);
                gaps.depth(corner[0], corner[1], 0);
                gaps.depth(inX, inY, gaps.atEdge(inX, inY) ? 0 : 2);
            }
        });
        // Steps between places of one colour alone: a black edge lets no white place out.
        Picture shut = Picture.drawn("####", "#..#", "####");
        shut.depth(1, 1, 2);
        shut.depth(0, 1, 1);
        // White steps lead around the picture, outside it.
        Picture parted = Picture.drawn("..#..", ".#.#.", "#...#", ".#.#.", "..#..");
        parted.components(1);
        parted.euler(0);
        int[][] corners = {{0, 0}, {4, 0}, {0, 4}, {4, 4}};
        for (int[] corner : corners) {
            parted.depth(corner[0], corner[1], 0);
        }
        parted.depth(2, 2, 2);
    }

    // Terms: the outer region is the one that has the places outside the picture.
    private static void outerRegion() {
        forEachSize((width, height) -> {
            // A bar from edge to edge parts the picture, not the outer region.
            for (int at = 0; at < width; at++) {
                Picture bar = new Picture(width, height);
                bar.invert(at, 0, 1, height, true);
                bar.euler(1);
                bar.holes(0, 0);
                bar.depth(0, 0, at == 0 ? 1 : 0);
                bar.depth(width - 1, height - 1, at == width - 1 ? 1 : 0);
            }
            for (int at = 0; at < height; at++) {
                Picture bar = new Picture(width, height);
                bar.invert(0, at, width, 1, true);
                bar.euler(1);
                bar.holes(0, 0);
                bar.depth(0, 0, at == 0 ? 1 : 0);
                bar.depth(width - 1, height - 1, at == height - 1 ? 1 : 0);
            }
            // With all of the edge black, it has no pixel of the picture.
            Picture frame = Picture.black(width, height);
            boolean hollow = width > 2 && height > 2;
            frame.invert(1, 1, width - 2, height - 2, hollow);
            frame.euler(hollow ? 0 : 1);
            frame.holes(0, hollow ? 1 : 0);
            frame.depth(width / 2, height / 2, hollow ? 2 : 1);
        });
    }

    // Terms: components are numbered in the order of their first pixels, by rows, then by x.
    private static void numberedByFirstPixels() {
        int[][] sizes = {{2, 3}, {5, 4}, {12, 12}};
        for (int[] size : sizes) {
            forEachPair(size[0], size[1], (x, y, x2, y2) -> {
                Picture picture = new Picture(size[0], size[1]);
                // The later one is set first: when a pixel was set doesn't count.
                picture.set(x2, y2, true, true);
                picture.label(x2, y2, 0);
                picture.set(x, y, true, true);
                picture.label(x, y, 0);
                picture.label(x2, y2, near(x, y, x2, y2) ? 0 : 1);
            });
        }
        Picture dots = new Picture(12, 12);
        for (int k = 35; k >= 0; k--) {
            dots.set(k % 6 * 2 + 1, k / 6 * 2 + 1, true, true);
        }
        for (int k = 0; k < 36; k++) {
            dots.label(k % 6 * 2 + 1, k / 6 * 2 + 1, k);
        }
        // Neither the leftmost pixel, nor the last one, nor the area, nor the depth counts.
        String[] numbers = {
            "........0...",
            ".11111....2.",
            ".1...1......",
            ".1.3.1.444..",
            ".1...1...4..",
            ".11111.5.4..",
            ".........4..",
            "6.......4...",
        };
        dueLabels(numbers);
        // A component is one also where its arms meet after another one's first pixel.
        dueLabels("0.1.0", "0...0", "00000");
        dueLabels("..0...", ".0..1.", "0..1..", ".0..1.", "..0...");
    }

    private static void dueLabels(String... numbers) {
        String[] rows = new String[numbers.length];
        for (int y = 0; y < rows.length; y++) {
            rows[y] = numbers[y].replaceAll("[0-9]", "#");
        }
        Picture picture = Picture.drawn(rows);
        for (int y = 0; y < rows.length; y++) {
            for (int x = 0; x < rows[y].length(); x++) {
                char number = numbers[y].charAt(x);
                picture.label(x, y, number == '.' ? NONE : number - '0');
            }
        }
    }

    // Terms: the depth is 0 exactly in the outer region.
    private static void depthZeroExactlyOutside() {
        dueDepths("00", "00");
        dueDepths("11", "11");
        dueDepths("01", "10");
        dueDepths("010", "121", "010");
        dueDepths("111", "101", "101");
        dueDepths("0111", "1211", "1121", "1110");
        dueDepths("1101", "1101", "1211", "1111");
        dueDepths("0000000", "0111110", "0122210", "0123210", "0122210", "0111110", "0000000");
        dueDepths("11111111", "00000001", "11111101", "10000101", "10110101", "10111101", "10000001", "11111111");
        dueDepths(
            "111111111111",
            "122222222221",
            "123333333321",
            "123444444321",
            "123455554321",
            "123456654321",
            "123456654321",
            "123455554321",
            "123444444321",
            "123333333321",
            "122222222221",
            "111111111111");
    }

    // A place is black just if its depth is odd.
    private static void dueDepths(String... depths) {
        Picture picture = new Picture(depths[0].length(), depths.length);
        for (int y = 0; y < depths.length; y++) {
            for (int x = 0; x < depths[y].length(); x++) {
                if ((depths[y].charAt(x) - '0') % 2 == 1) {
                    picture.set(x, y, true, true);
                }
            }
        }
        for (int y = 0; y < depths.length; y++) {
            for (int x = 0; x < depths[y].length(); x++) {
                picture.depth(x, y, depths[y].charAt(x) - '0');
            }
        }
    }

    // Terms: a white region that is not the outer one is a hole of just one component.
    private static void holeOfJustOne() {
        // The hole lies beside the frame and beside both dots, but it is the frame's alone.
        dueHoles(new int[] {1, 0, 0},
            "#######", "#.....#", "#.#...#", "#.....#", "#...#.#", "#.....#", "#######");
        // The hole between the rings is beside both; the inner ring has just its own.
        dueHoles(new int[] {1, 1},
            "#######", "#.....#", "#.###.#", "#.#.#.#", "#.###.#", "#.....#", "#######");
        // The same where the rings hang together cornerwise.
        dueHoles(new int[] {1, 1},
            "....#....", "...#.#...", "..#...#..", ".#..#..#.", "#..#.#..#", ".#..#..#.", "..#...#..",
            "...#.#...", "....#....");
        // A hole beside three components that have holes of their own.
        dueHoles(new int[] {1, 1, 1},
            "############", "#..........#", "#.###.###..#", "#.#.#.#.#..#", "#.###.###..#", "#..........#",
            "############");
        // Two holes beside each other cornerwise, of one component.
        dueHoles(new int[] {2}, "####", "##.#", "#.##", "####");
        // Holes of two components that lie side by side.
        dueHoles(new int[] {1, 1}, ".#..###", "#.#.#.#", ".#..###");
        dueHoles(new int[] {2, 1, 0, 0}, NESTED);
    }

    private static void dueHoles(int[] want, String... rows) {
        Picture picture = Picture.drawn(rows);
        picture.components(want.length);
        int all = 0;
        for (int k = 0; k < want.length; k++) {
            picture.holes(k, want[k]);
            all += want[k];
        }
        // Each region but the outer one is counted with one component, and with no other.
        picture.euler(want.length - all);
    }

    // Promise 1: columns and rows, each clamped into 2..12.

    private static void dueSize(int columns, int rows, int width, int height) {
        Picture picture = new Picture(columns, rows);
        picture.depth(width - 1, height - 1, 0);
        picture.depth(width, height - 1, BAD);
        picture.depth(width - 1, height, BAD);
        picture.label(width, 0, BAD);
        picture.label(0, height, BAD);
        picture.set(width, 0, true, false);
        picture.set(0, height, true, false);
        picture.set(width - 1, height - 1, true, true);
        picture.isBlack(width - 1, height - 1, true);
        picture.invert(0, 0, width + 1, height, false);
        picture.invert(0, 0, width, height + 1, false);
        picture.invert(0, 0, width, height, true);
        picture.area(0, width * height - 1);
    }

    private static final int[] TOO_SMALL = {1, 0, -1, -2, -12, -13, MIN + 1, MIN};
    private static final int[] TOO_LARGE = {13, 14, 24, 256 + 5, 65536 + 5, MAX - 1, MAX};

    private static void newColumnsTooSmall() {
        for (int columns : TOO_SMALL) {
            for (int rows = LEAST; rows <= GREATEST; rows++) {
                dueSize(columns, rows, LEAST, rows);
            }
            dueSize(columns, MIN, LEAST, LEAST);
            dueSize(columns, MAX, LEAST, GREATEST);
        }
    }

    private static void newColumnsTooLarge() {
        for (int columns : TOO_LARGE) {
            for (int rows = LEAST; rows <= GREATEST; rows++) {
                dueSize(columns, rows, GREATEST, rows);
            }
            dueSize(columns, MIN, GREATEST, LEAST);
            dueSize(columns, MAX, GREATEST, GREATEST);
        }
    }

    private static void newRowsTooSmall() {
        for (int rows : TOO_SMALL) {
            for (int columns = LEAST; columns <= GREATEST; columns++) {
                dueSize(columns, rows, columns, LEAST);
            }
            dueSize(MIN, rows, LEAST, LEAST);
            dueSize(MAX, rows, GREATEST, LEAST);
        }
    }

    private static void newRowsTooLarge() {
        for (int rows : TOO_LARGE) {
            for (int columns = LEAST; columns <= GREATEST; columns++) {
                dueSize(columns, rows, columns, GREATEST);
            }
            dueSize(MIN, rows, LEAST, GREATEST);
            dueSize(MAX, rows, GREATEST, GREATEST);
        }
    }

    private static void newSidesKept() {
        forEachSize((width, height) -> dueSize(width, height, width, height));
    }

    private static void newAllWhite() {
        forEachSize((width, height) -> {
            Picture picture = new Picture(width, height);
            picture.components(0);
            picture.euler(0);
            for (int y = 0; y < height; y++) {
                for (int x = 0; x < width; x++) {
                    picture.isBlack(x, y, false);
                    picture.label(x, y, NONE);
                    picture.depth(x, y, 0);
                }
            }
        });
    }

    // Promise 2: x outside 0..W-1 or y outside 0..H-1 is refused; a refused call changes nothing.

    private static int[] outside(int side) {
        return new int[] {
            -1, -2, -side, side, side + 1, GREATEST + 1, GREATEST + 2, 196, 256, 65536, MIN, MIN + 1, MAX - 1, MAX,
        };
    }

    private static void setOutsideX() {
        forEachSize((width, height) -> {
            Picture picture = new Picture(width, height);
            for (int x : outside(width)) {
                picture.set(x, 0, true, false);
                picture.set(x, height - 1, false, false);
                picture.set(x, x, true, false);
            }
        });
    }

    private static void setOutsideY() {
        forEachSize((width, height) -> {
            Picture picture = new Picture(width, height);
            for (int y : outside(height)) {
                picture.set(0, y, true, false);
                picture.set(width - 1, y, false, false);
                picture.set(-1, y, true, false);
            }
        });
    }

    private static void setElseTrue() {
        forEachSize((width, height) -> {
            Picture picture = new Picture(width, height);
            for (int y = 0; y < height; y++) {
                for (int x = 0; x < width; x++) {
                    picture.set(x, y, true, true);
                    picture.isBlack(x, y, true);
                }
            }
            picture.area(0, width * height);
            // A pixel that has the colour already is not refused.
            picture.set(0, 0, true, true);
            picture.set(width - 1, height - 1, false, true);
            picture.set(width - 1, height - 1, false, true);
            picture.area(0, width * height - 1);
        });
    }

    private static void dueUnchanged(String[] rows, Question refused) {
        List<Integer> before = Picture.drawn(rows).answers();
        Picture picture = Picture.drawn(rows);
        refused.ask(picture);
        due("all answers after a refused call", picture.answers(), before);
    }

    private static void setRefusedChangesNothing() {
        int width = SMALL[0].length();
        int height = SMALL.length;
        for (int x : outside(width)) {
            for (int y = 0; y < height; y++) {
                int row = y;
                dueUnchanged(SMALL, p -> p.set(x, row, true, false));
                dueUnchanged(SMALL, p -> p.set(x, row, false, false));
            }
        }
        for (int y : outside(height)) {
            for (int x = 0; x < width; x++) {
                int column = x;
                dueUnchanged(SMALL, p -> p.set(column, y, true, false));
                dueUnchanged(SMALL, p -> p.set(column, y, false, false));
            }
        }
    }

    // Promise 3: invert.

    private static void invertOutsideX() {
        forEachSize((width, height) -> {
            Picture picture = new Picture(width, height);
            for (int x : outside(width)) {
                picture.invert(x, 0, 1, 1, false);
                picture.invert(x, 0, 2, height, false);
                picture.invert(x, height - 1, width, 1, false);
                // wide within 1 .. W - x doesn't help.
                picture.invert(x, 0, width - x, 1, false);
                picture.invert(x, x, 1, 1, false);
            }
        });
    }

    private static void invertOutsideY() {
        forEachSize((width, height) -> {
            Picture picture = new Picture(width, height);
            for (int y : outside(height)) {
                picture.invert(0, y, 1, 1, false);
                picture.invert(0, y, width, 2, false);
                picture.invert(width - 1, y, 1, height, false);
                picture.invert(0, y, 1, height - y, false);
                picture.invert(-1, y, 1, 1, false);
            }
        });
    }

    private static void invertWrongWide() {
        forEachSize((width, height) -> {
            for (int x = 0; x < width; x++) {
                Picture picture = new Picture(width, height);
                int[] wrongWide = {0, -1, -x, -width, width - x + 1, width - x + 2, width + 1, 13, MIN, MAX};
                for (int wide : wrongWide) {
                    picture.invert(x, 0, wide, 1, false);
                    picture.invert(x, height - 1, wide, 1, false);
                    picture.invert(x, 0, wide, height, false);
                }
                picture.components(0);
            }
        });
    }

    private static void invertWrongHigh() {
        forEachSize((width, height) -> {
            for (int y = 0; y < height; y++) {
                Picture picture = new Picture(width, height);
                int[] wrongHigh = {0, -1, -y, -height, height - y + 1, height - y + 2, height + 1, 13, MIN, MAX};
                for (int high : wrongHigh) {
                    picture.invert(0, y, 1, high, false);
                    picture.invert(width - 1, y, 1, high, false);
                    picture.invert(0, y, width, high, false);
                }
                picture.components(0);
            }
        });
    }

    // Also where x + wide - 1 or y + high - 1 would wrap around.
    private static void invertWrapAround() {
        forEachSize((width, height) -> {
            Picture picture = new Picture(width, height);
            for (int back = 0; back < 12; back++) {
                picture.invert(width - 1, 0, MAX - back, 1, false);
                picture.invert(0, height - 1, 1, MAX - back, false);
                picture.invert(width - 1, height - 1, MAX - back, MAX - back, false);
                picture.invert(0, 0, MIN + back, 1, false);
                picture.invert(0, 0, 1, MIN + back, false);
                picture.invert(MAX - back, 0, 2 + back, 1, false);
                picture.invert(0, MAX - back, 1, 2 + back, false);
                picture.invert(MAX - back, 0, MAX, 1, false);
                picture.invert(0, MAX - back, 1, MAX, false);
                picture.invert(MIN + back, 0, MIN - back + 1, 1, false);
                picture.invert(0, MIN + back, 1, MIN - back + 1, false);
                picture.invert(MIN + back, 0, 1, 1, false);
                picture.invert(0, MIN + back, 1, 1, false);
            }
            picture.components(0);
        });
    }

    private static void invertElseTrue() {
        int[][] sizes = {{2, 2}, {5, 4}, {12, 12}};
        for (int[] size : sizes) {
            forEachRectangle(size[0], size[1], CompLabelBoundaries::dueInverted);
        }
    }

    private interface RectangleTest {
        void of(Picture picture, int x, int y, int wide, int high);
    }

    private static void forEachRectangle(int width, int height, RectangleTest body) {
        forEachPair(width + 1, height + 1, (x, y, x2, y2) -> {
            if (x2 > x && y2 > y) {
                body.of(new Picture(width, height), x, y, x2 - x, y2 - y);
            }
        });
    }

    private static void dueInverted(Picture picture, int x, int y, int wide, int high) {
        picture.set(0, 0, true, true);
        picture.invert(x, y, wide, high, true);
        for (int row = 0; row < picture.height; row++) {
            for (int column = 0; column < picture.width; column++) {
                boolean inside = column >= x && column < x + wide && row >= y && row < y + high;
                picture.isBlack(column, row, inside != (column == 0 && row == 0));
            }
        }
    }

    private static void invertRefusedChangesNothing() {
        int width = SMALL[0].length();
        int height = SMALL.length;
        for (int x : outside(width)) {
            dueUnchanged(SMALL, p -> p.invert(x, 0, 2, 1, false));
            dueUnchanged(SMALL, p -> p.invert(x, 1, width, 2, false));
        }
        for (int y : outside(height)) {
            dueUnchanged(SMALL, p -> p.invert(0, y, 1, 2, false));
            dueUnchanged(SMALL, p -> p.invert(1, y, 2, height, false));
        }
        int[] wrongSides = {0, -1, -2, 13, MIN, MIN + 1, MAX - 1, MAX};
        for (int side : wrongSides) {
            dueUnchanged(SMALL, p -> p.invert(1, 1, side, 2, false));
            dueUnchanged(SMALL, p -> p.invert(1, 1, 2, side, false));
            dueUnchanged(SMALL, p -> p.invert(2, 2, side, side, false));
        }
        // Nor does the part of the rectangle change that lies in the picture.
        for (int at = 0; at < height; at++) {
            int from = at;
            dueUnchanged(SMALL, p -> p.invert(from, 0, width - from + 1, 1, false));
            dueUnchanged(SMALL, p -> p.invert(from, 0, width - from + 1, height, false));
            dueUnchanged(SMALL, p -> p.invert(0, from, 1, height - from + 1, false));
            dueUnchanged(SMALL, p -> p.invert(0, from, width, height - from + 1, false));
        }
    }

    private static void invertWholePicture() {
        forEachSize((width, height) -> {
            Picture picture = new Picture(width, height);
            picture.set(width - 1, 0, true, true);
            picture.invert(0, 0, width, height, true);
            for (int y = 0; y < height; y++) {
                for (int x = 0; x < width; x++) {
                    picture.isBlack(x, y, !(x == width - 1 && y == 0));
                }
            }
            picture.area(0, width * height - 1);
            picture.depth(width - 1, 0, 0);
            picture.depth(0, height - 1, 1);
            picture.invert(0, 0, width, height, true);
            picture.area(0, 1);
            picture.depth(width - 1, 0, 1);
            picture.depth(0, height - 1, 0);
        });
    }

    // Promise 4: false outside the picture.
    private static void isBlackOutside() {
        forEachSize((width, height) -> {
            Picture picture = Picture.black(width, height);
            for (int x : outside(width)) {
                picture.isBlack(x, 0, false);
                picture.isBlack(x, height - 1, false);
                picture.isBlack(x, x, false);
            }
            for (int y : outside(height)) {
                picture.isBlack(0, y, false);
                picture.isBlack(width - 1, y, false);
                picture.isBlack(width, y, false);
            }
            picture.isBlack(0, 0, true);
            picture.isBlack(width - 1, 0, true);
            picture.isBlack(0, height - 1, true);
            picture.isBlack(width - 1, height - 1, true);
        });
    }

    // Promises 5 and 6: a picture all white, and one all black.

    private static void forEachWhite(Question question) {
        forEachSize((width, height) -> {
            question.ask(new Picture(width, height));
            // Also when it has been black.
            Picture again = Picture.black(width, height);
            again.invert(0, 0, width, height, true);
            question.ask(again);
        });
    }

    private static void forEachBlack(Question question) {
        forEachSize((width, height) -> {
            question.ask(Picture.black(width, height));
            Picture bySets = new Picture(width, height);
            for (int at = 0; at < width * height; at++) {
                bySets.set(at % width, at / width, true, true);
            }
            question.ask(bySets);
        });
    }

    private static void componentsAllWhite() {
        forEachWhite(p -> p.components(0));
    }

    private static void componentsAllBlack() {
        forEachBlack(p -> p.components(1));
    }

    private static void eulerAllWhite() {
        forEachWhite(p -> p.euler(0));
    }

    private static void eulerAllBlack() {
        forEachBlack(p -> p.euler(1));
    }

    // Promise 7: NONE for a white pixel; BAD if x or y is outside the picture.

    private static void labelWhite() {
        forEachWhite(p -> {
            p.label(0, 0, NONE);
            p.label(p.width - 1, p.height - 1, NONE);
        });
        // In the outer region, in a hole, and in a hole of a component in a hole.
        Picture nested = Picture.drawn(NESTED);
        nested.label(0, 9, NONE);
        nested.label(11, 10, NONE);
        nested.label(1, 1, NONE);
        nested.label(10, 7, NONE);
        nested.label(3, 4, NONE);
        nested.set(5, 4, true, true);
        nested.label(5, 4, 1);
        nested.set(5, 4, false, true);
        nested.label(5, 4, NONE);
    }

    private static void labelOutside() {
        forEachPlaceOutside((p, at) -> p.label(at[0], at[1], BAD));
    }

    private interface PlaceQuestion {
        void ask(Picture picture, int[] at);
    }

    private static void forEachPlaceOutside(PlaceQuestion question) {
        forEachSize((width, height) -> {
            for (Picture picture : List.of(new Picture(width, height), Picture.black(width, height))) {
                for (int x : outside(width)) {
                    question.ask(picture, new int[] {x, 0});
                    question.ask(picture, new int[] {x, height - 1});
                    question.ask(picture, new int[] {x, x});
                }
                for (int y : outside(height)) {
                    question.ask(picture, new int[] {0, y});
                    question.ask(picture, new int[] {width - 1, y});
                    question.ask(picture, new int[] {-1, y});
                }
            }
        });
    }

    // Promises 8, 9, 10 and 12: BAD if there is no such component.

    private interface ComponentQuestion {
        void ask(Picture picture, int k, int want);
    }

    private static void forEachMissing(ComponentQuestion question) {
        forEachWhite(p -> askMissing(p, 0, question));
        forEachBlack(p -> askMissing(p, 1, question));
        askMissing(Picture.drawn(NESTED), 4, question);
        askMissing(Picture.drawn(SMALL), 2, question);
        Picture dots = new Picture(12, 12);
        for (int k = 0; k < 36; k++) {
            dots.set(k % 6 * 2, k / 6 * 2, true, true);
        }
        askMissing(dots, 36, question);
        // Also a number that was a component's before the last change.
        Picture joined = Picture.drawn("#.#", "...", "#.#");
        joined.set(1, 1, true, true);
        askMissing(joined, 1, question);
        joined.set(1, 1, false, true);
        joined.set(2, 2, false, true);
        askMissing(joined, 3, question);
        joined.set(0, 0, false, true);
        joined.set(2, 0, false, true);
        joined.set(0, 2, false, true);
        askMissing(joined, 0, question);
    }

    private static void askMissing(Picture picture, int count, ComponentQuestion question) {
        int[] below = {-1, -2, -3, -36, -196, MIN + 1, MIN};
        for (int k : below) {
            question.ask(picture, k, BAD);
        }
        int[] above = {0, 1, 2, 36, 72, 143, 144, 195, 196, 256, 65536, 1000000};
        for (int more : above) {
            question.ask(picture, count + more, BAD);
        }
        question.ask(picture, MAX - 1, BAD);
        question.ask(picture, MAX, BAD);
    }

    // The least and the greatest number of a component are no wrong ones.
    private static void askFirstAndLast(int wantFirst, int wantLast, ComponentQuestion question) {
        Picture nested = Picture.drawn(NESTED);
        question.ask(nested, 0, wantFirst);
        question.ask(nested, 3, wantLast);
    }

    private static void areaNoSuchComponent() {
        forEachMissing(Picture::area);
        askFirstAndLast(45, 2, Picture::area);
    }

    private static void holesNoSuchComponent() {
        forEachMissing(Picture::holes);
        askFirstAndLast(2, 0, Picture::holes);
    }

    private static void aroundNoSuchComponent() {
        forEachMissing(Picture::around);
        askFirstAndLast(NONE, NONE, Picture::around);
    }

    private static void enclosedNoSuchComponent() {
        forEachMissing(Picture::enclosed);
        askFirstAndLast(63, 0, Picture::enclosed);
    }

    // Promise 10: NONE if the depth of component k is 1.
    private static void aroundAtDepthOne() {
        forEachBlack(p -> p.around(0, NONE));
        Picture nested = Picture.drawn(NESTED);
        int[] want = {NONE, 0, 1, NONE};
        for (int k = 0; k < want.length; k++) {
            nested.around(k, want[k]);
        }
        // A bay is no hole: what lies in it has depth 1.
        Picture bay = Picture.drawn("#####", "#...#", "#.#.#", "#....");
        bay.depth(2, 2, 1);
        bay.around(0, NONE);
        bay.around(1, NONE);
        bay.set(4, 3, true, true);
        bay.around(1, NONE);
        for (int x = 1; x < 4; x++) {
            bay.set(x, 3, true, true);
        }
        bay.components(1);
        bay.set(2, 2, false, true);
        bay.around(0, NONE);
        // At the edge of a picture that is nearly all black, beside another component.
        Picture strip = Picture.drawn("#.###", "#.#.#", "#.###");
        strip.around(0, NONE);
        strip.around(1, NONE);
    }

    // Promise 11: 0 for a white pixel that the outer region reaches; BAD outside the picture.

    private static void depthWhereOuterReaches() {
        forEachWhite(p -> {
            for (int at = 0; at < p.width * p.height; at++) {
                p.depth(at % p.width, at / p.width, 0);
            }
        });
        // Down a winding way to the middle, until a dot shuts it.
        String[] winding = {
            "########",
            ".......#",
            "######.#",
            "#....#.#",
            "#.##.#.#",
            "#.####.#",
            "#......#",
            "########",
        };
        Picture way = Picture.drawn(winding);
        way.depth(0, 1, 0);
        way.depth(4, 4, 0);
        way.set(0, 1, true, true);
        way.depth(0, 1, 1);
        way.depth(1, 1, 2);
        way.depth(4, 4, 2);
        way.set(7, 7, false, true);
        way.depth(7, 7, 0);
        // Reached cornerwise only, that is, not reached.
        way.depth(6, 6, 2);
        way.set(6, 7, false, true);
        way.depth(4, 4, 0);
    }

    private static void depthOutside() {
        forEachPlaceOutside((p, at) -> p.depth(at[0], at[1], BAD));
    }

    // Promise 12: a component with no hole; one that holds other components at any depth.

    private static void enclosedNoHole() {
        forEachBlack(p -> p.enclosed(0, 0));
        dueEnclosed(new int[] {0}, "..", ".#");
        dueEnclosed(new int[] {0, 0}, "#.#", "...");
        dueEnclosed(new int[] {0}, "###", "#.#", "#.#");
        dueEnclosed(new int[] {0}, "###", "#..", "###");
        dueEnclosed(new int[] {0}, "#.#", "#.#", "###");
        dueEnclosed(new int[] {0}, "###", "..#", "###");
        dueEnclosed(new int[] {0}, ".##", "#..", "#..");
        // A component in a bay is not enclosed.
        dueEnclosed(new int[] {0, 0}, "#####", "#...#", "#.#.#", "#...#");
        // Two bars from edge to edge: neither holds what lies between them.
        dueEnclosed(new int[] {0, 0}, "#...#", "#...#", "#...#");
    }

    private static void dueEnclosed(int[] want, String... rows) {
        Picture picture = Picture.drawn(rows);
        picture.components(want.length);
        for (int k = 0; k < want.length; k++) {
            picture.enclosed(k, want[k]);
        }
    }

    private static void enclosedAtAnyDepth() {
        Picture rings = new Picture(12, 12);
        for (int inset = 0; inset < 6; inset++) {
            int side = 12 - 2 * inset;
            rings.invert(inset, inset, side, side, true);
        }
        rings.enclosed(0, 100);
        rings.enclosed(1, 36);
        rings.enclosed(2, 4);
        rings.set(5, 5, true, true);
        rings.enclosed(0, 100);
        rings.enclosed(1, 36);
        // The dot is cornerwise beside the third ring, so it is part of it.
        rings.enclosed(2, 3);
        // An opened ring holds nothing, those inside it still do.
        rings.set(0, 5, false, true);
        rings.enclosed(0, 0);
        rings.enclosed(1, 36);
        Picture nested = Picture.drawn(NESTED);
        int[] want = {63, 9, 0, 0};
        for (int k = 0; k < want.length; k++) {
            nested.enclosed(k, want[k]);
        }
        // Two components in one hole, one of them with a hole of its own.
        dueEnclosed(new int[] {45, 1, 0},
            "###########", "#.........#", "#.###.....#", "#.#.#..#..#", "#.###.....#", "#.........#",
            "###########");
    }
}
