import java.util.Arrays;
import java.util.Random;

// Compares every answer with a slow model that follows the document's terms word by word.
public final class CompLabelModel {
    private static final int BAD = -1;
    private static final int NONE = -2;
    private static final int SHOWN_AT_MOST = 20;
    private static final int CALLS = 512;

    private static int wrong = 0;

    public static void main(String[] args) {
        everySmallPicture();
        // A fixed seed, so that each run of the test makes the same calls.
        Random random = new Random(20261115L);
        greaterPictures(random);
        mixedCalls(random);
        mixedCallsByTurns(random);
        callsPastTheLast(random);
        System.out.println(wrong == 0 ? "all answers are as due" : wrong + " answers are not as due");
        if (wrong != 0) {
            System.exit(1);
        }
    }

    private static void due(String where, String call, long got, long want) {
        if (got != want) {
            wrong++;
            if (wrong <= SHOWN_AT_MOST) {
                System.out.println(where + ": " + call + " answered " + got + ", due is " + want);
            }
        }
    }

    private static void everySmallPicture() {
        Model model = new Model(4, 4);
        for (int bits = 0; bits < 1 << 16; bits++) {
            for (int at = 0; at < 16; at++) {
                model.set(at % 4, at / 4, (bits >> at & 1) == 1);
            }
            compareAll(model);
        }
    }

    private static void greaterPictures(Random random) {
        for (int run = 0; run < 1500; run++) {
            Model model = new Model(2 + random.nextInt(11), 2 + random.nextInt(11));
            if (run % 2 == 0) {
                scatter(model, random);
            } else {
                nest(model, random);
            }
            compareAll(model);
        }
    }

    private static void scatter(Model model, Random random) {
        int percent = 10 + random.nextInt(81);
        for (int y = 0; y < model.height; y++) {
            for (int x = 0; x < model.width; x++) {
                model.set(x, y, random.nextInt(100) < percent);
            }
        }
    }

    // Scattered pixels seldom nest deep: rectangles in rectangles do, and a few flips stir them.
    private static void nest(Model model, Random random) {
        int x = random.nextInt(2);
        int y = random.nextInt(2);
        int wide = model.width - x - random.nextInt(2);
        int high = model.height - y - random.nextInt(2);
        while (wide > 0 && high > 0) {
            model.invert(x, y, wide, high);
            x += 1;
            y += 1;
            wide -= 2;
            high -= 2;
        }
        for (int flips = random.nextInt(6); flips > 0; flips--) {
            model.invert(random.nextInt(model.width), random.nextInt(model.height), 1, 1);
        }
    }

    // Run by run and not pixel by pixel: fewer calls of the 512.
    private static CompLabel drawn(Model model) {
        CompLabel picture = new CompLabel(model.width, model.height);
        for (int y = 0; y < model.height; y++) {
            for (int x = 0; x < model.width; x++) {
                int end = x;
                while (model.isBlack(end, y)) {
                    end++;
                }
                if (end > x) {
                    picture.invert(x, y, end - x, 1);
                    x = end;
                }
            }
        }
        return picture;
    }

    private static void compareAll(Model model) {
        String where = model.toString();
        CompLabel first = drawn(model);
        // One object would not do for a great picture, as it is promised for 512 calls only.
        CompLabel second = model.width * model.height <= 64 ? first : drawn(model);
        due(where, "components()", first.components(), model.components());
        due(where, "euler()", first.euler(), model.euler());
        for (int y = 0; y < model.height; y++) {
            for (int x = 0; x < model.width; x++) {
                String at = "(" + x + ", " + y + ")";
                due(where, "isBlack" + at, first.isBlack(x, y) ? 1 : 0, model.isBlack(x, y) ? 1 : 0);
                due(where, "label" + at, first.label(x, y), model.label(x, y));
                due(where, "depth" + at, second.depth(x, y), model.depth(x, y));
            }
        }
        for (int k = -1; k <= model.components(); k++) {
            due(where, "area(" + k + ")", second.area(k), model.area(k));
            due(where, "holes(" + k + ")", second.holes(k), model.holes(k));
            due(where, "around(" + k + ")", second.around(k), model.around(k));
            due(where, "enclosed(" + k + ")", second.enclosed(k), model.enclosed(k));
        }
    }

    private static void mixedCalls(Random random) {
        for (int run = 0; run < 150; run++) {
            int columns = side(random);
            int rows = side(random);
            CompLabel picture = new CompLabel(columns, rows);
            Model model = new Model(columns, rows);
            String where = "mixed run " + run + " of CompLabel(" + columns + ", " + rows + ")";
            for (int call = 0; call < CALLS; call++) {
                mixedCall(where + ", call " + call, picture, model, random);
            }
        }
    }

    // What one object is told must not show in another.
    private static void mixedCallsByTurns(Random random) {
        int[][] sizes = {{12, 12}, {12, 12}, {7, 5}, {5, 7}, {2, 2}};
        CompLabel[] pictures = new CompLabel[sizes.length];
        Model[] models = new Model[sizes.length];
        for (int at = 0; at < sizes.length; at++) {
            pictures[at] = new CompLabel(sizes[at][0], sizes[at][1]);
            models[at] = new Model(sizes[at][0], sizes[at][1]);
        }
        for (int call = 0; call < CALLS; call++) {
            for (int at = 0; at < sizes.length; at++) {
                mixedCall("by turns, object " + at + ", call " + call, pictures[at], models[at], random);
            }
        }
    }

    // Answers after call 512 are free, but the language's rules still forbid a call to throw.
    private static void callsPastTheLast(Random random) {
        CompLabel picture = new CompLabel(12, 12);
        for (int round = 0; round < CALLS; round++) {
            int x = coordinate(random, 12);
            int y = coordinate(random, 12);
            int k = coordinate(random, 12);
            picture.set(x, y, random.nextBoolean());
            picture.invert(x, y, coordinate(random, 13), coordinate(random, 13));
            picture.isBlack(x, y);
            picture.components();
            picture.euler();
            picture.label(x, y);
            picture.area(k);
            picture.holes(k);
            picture.around(k);
            picture.depth(x, y);
            picture.enclosed(k);
        }
    }

    private static void mixedCall(String where, CompLabel picture, Model model, Random random) {
        int x = coordinate(random, model.width);
        int y = coordinate(random, model.height);
        int k = coordinate(random, model.components());
        switch (random.nextInt(13)) {
            case 0, 1, 2 -> {
                boolean black = random.nextInt(3) > 0;
                due(where, "set", picture.set(x, y, black) ? 1 : 0, model.set(x, y, black) ? 1 : 0);
            }
            case 3 -> {
                int wide = coordinate(random, model.width + 1);
                int high = coordinate(random, model.height + 1);
                due(where, "invert", picture.invert(x, y, wide, high) ? 1 : 0, model.invert(x, y, wide, high) ? 1 : 0);
            }
            case 4 -> due(where, "isBlack", picture.isBlack(x, y) ? 1 : 0, model.isBlack(x, y) ? 1 : 0);
            case 5 -> due(where, "components", picture.components(), model.components());
            case 6 -> due(where, "euler", picture.euler(), model.euler());
            case 7 -> due(where, "label", picture.label(x, y), model.label(x, y));
            case 8 -> due(where, "area", picture.area(k), model.area(k));
            case 9 -> due(where, "holes", picture.holes(k), model.holes(k));
            case 10 -> due(where, "around", picture.around(k), model.around(k));
            case 11 -> due(where, "depth", picture.depth(x, y), model.depth(x, y));
            default -> due(where, "enclosed", picture.enclosed(k), model.enclosed(k));
        }
    }

    private static int side(Random random) {
        return random.nextInt(10) == 0 ? random.nextInt() : random.nextInt(16);
    }

    // Mostly inside 0 .. bound - 1, at times just past its ends or far off.
    private static int coordinate(Random random, int bound) {
        int kind = random.nextInt(25);
        if (kind == 0) {
            return random.nextInt();
        }
        if (kind == 1) {
            return random.nextBoolean() ? -1 : bound;
        }
        return random.nextInt(Math.max(bound, 1));
    }

    private static final class Model {
        // Wider than the one place that is needed, so as not to lean on the class's own choice.
        private static final int MARGIN = 2;

        final int width;
        final int height;
        private final boolean[][] pixel;
        private final int gridWidth;
        private final int places;
        private final int[][] candidates;
        private boolean surveyed;
        private int[] part;
        private int[] depth;
        private int[] componentPart;
        private int parts;

        Model(int columns, int rows) {
            width = Math.min(12, Math.max(2, columns));
            height = Math.min(12, Math.max(2, rows));
            pixel = new boolean[height][width];
            gridWidth = width + 2 * MARGIN;
            places = gridWidth * (height + 2 * MARGIN);
            candidates = new int[places][];
            for (int place = 0; place < places; place++) {
                candidates[place] = candidatesFor(place);
            }
        }

        private int xOf(int place) {
            return place % gridWidth - MARGIN;
        }

        private int yOf(int place) {
            return place / gridWidth - MARGIN;
        }

        private int placeOf(int x, int y) {
            return (y + MARGIN) * gridWidth + x + MARGIN;
        }

        private boolean inside(int x, int y) {
            return x >= 0 && x < width && y >= 0 && y < height;
        }

        private boolean blackAt(int place) {
            return isBlack(xOf(place), yOf(place));
        }

        private boolean near(int a, int b) {
            return a != b && Math.abs(xOf(a) - xOf(b)) <= 1 && Math.abs(yOf(a) - yOf(b)) <= 1;
        }

        private boolean beside(int a, int b) {
            return near(a, b) && (xOf(a) == xOf(b) || yOf(a) == yOf(b));
        }

        private boolean step(int a, int b) {
            if (blackAt(a) && blackAt(b)) {
                return near(a, b);
            }
            return !blackAt(a) && !blackAt(b) && beside(a, b);
        }

        // All places that can be near one; the terms above then say which of them are.
        private int[] candidatesFor(int place) {
            int[] found = new int[9];
            int count = 0;
            for (int row = -1; row <= 1; row++) {
                for (int column = -1; column <= 1; column++) {
                    int x = xOf(place) + column;
                    int y = yOf(place) + row;
                    boolean onGrid = x >= -MARGIN && x < width + MARGIN && y >= -MARGIN && y < height + MARGIN;
                    if (onGrid) {
                        found[count++] = placeOf(x, y);
                    }
                }
            }
            return Arrays.copyOf(found, count);
        }

        private void survey() {
            if (surveyed) {
                return;
            }
            surveyed = true;
            findParts();
            numberComponents();
            findDepths();
        }

        // Each place takes the least place that steps lead to as the name of its part.
        private void findParts() {
            part = new int[places];
            for (int place = 0; place < places; place++) {
                part[place] = place;
            }
            for (boolean changed = true; changed; ) {
                changed = false;
                for (int place = 0; place < places; place++) {
                    for (int other : candidates[place]) {
                        if (part[other] < part[place] && step(place, other)) {
                            part[place] = part[other];
                            changed = true;
                        }
                    }
                }
            }
        }

        private void numberComponents() {
            componentPart = new int[places];
            int components = 0;
            parts = 0;
            for (int place = 0; place < places; place++) {
                if (part[place] == place) {
                    parts++;
                    if (blackAt(place)) {
                        componentPart[components++] = place;
                    }
                }
            }
            componentPart = Arrays.copyOf(componentPart, components);
        }

        private void findDepths() {
            depth = new int[places];
            for (int place = 0; place < places; place++) {
                depth[place] = inside(xOf(place), yOf(place)) ? places : 0;
            }
            for (boolean changed = true; changed; ) {
                changed = false;
                for (int place = 0; place < places; place++) {
                    for (int from : candidates[place]) {
                        int reached = places;
                        if (step(from, place)) {
                            reached = depth[from];
                        } else if (beside(from, place) && blackAt(from) != blackAt(place)) {
                            reached = depth[from] + 1;
                        }
                        if (reached < depth[place]) {
                            depth[place] = reached;
                            changed = true;
                        }
                    }
                }
            }
        }

        boolean set(int x, int y, boolean black) {
            if (!inside(x, y)) {
                return false;
            }
            pixel[y][x] = black;
            surveyed = false;
            return true;
        }

        boolean invert(int x, int y, int wide, int high) {
            if (!inside(x, y) || wide < 1 || wide > width - x || high < 1 || high > height - y) {
                return false;
            }
            for (int row = y; row <= y + high - 1; row++) {
                for (int column = x; column <= x + wide - 1; column++) {
                    pixel[row][column] = !pixel[row][column];
                }
            }
            surveyed = false;
            return true;
        }

        boolean isBlack(int x, int y) {
            return inside(x, y) && pixel[y][x];
        }

        int components() {
            survey();
            return componentPart.length;
        }

        int euler() {
            survey();
            int regions = parts - componentPart.length;
            return componentPart.length - (regions - 1);
        }

        int label(int x, int y) {
            survey();
            if (!inside(x, y)) {
                return BAD;
            }
            return pixel[y][x] ? Arrays.binarySearch(componentPart, part[placeOf(x, y)]) : NONE;
        }

        private boolean missing(int k) {
            survey();
            return k < 0 || k >= componentPart.length;
        }

        int area(int k) {
            if (missing(k)) {
                return BAD;
            }
            int count = 0;
            for (int place = 0; place < places; place++) {
                if (part[place] == componentPart[k]) {
                    count++;
                }
            }
            return count;
        }

        int holes(int k) {
            if (missing(k)) {
                return BAD;
            }
            boolean[] hole = new boolean[places];
            for (int place = 0; place < places; place++) {
                if (part[place] != componentPart[k]) {
                    continue;
                }
                for (int other : candidates[place]) {
                    if (!blackAt(other) && beside(place, other) && depth[place] == depth[other] - 1) {
                        hole[part[other]] = true;
                    }
                }
            }
            int count = 0;
            for (boolean is : hole) {
                count += is ? 1 : 0;
            }
            return count;
        }

        // The innermost of the components that keep k from the outside.
        int around(int k) {
            if (missing(k)) {
                return BAD;
            }
            if (depth[componentPart[k]] == 1) {
                return NONE;
            }
            int found = NONE;
            int foundDepth = 0;
            for (int holder = 0; holder < componentPart.length; holder++) {
                int holderDepth = depth[componentPart[holder]];
                if (holderDepth > foundDepth && kept(holder)[componentPart[k]]) {
                    found = holder;
                    foundDepth = holderDepth;
                }
            }
            return found;
        }

        int depth(int x, int y) {
            survey();
            return inside(x, y) ? depth[placeOf(x, y)] : BAD;
        }

        int enclosed(int k) {
            if (missing(k)) {
                return BAD;
            }
            int count = 0;
            for (boolean is : kept(k)) {
                count += is ? 1 : 0;
            }
            return count;
        }

        // The places not in k that no way of places, each beside the one before, reaches without k.
        private boolean[] kept(int k) {
            boolean[] kept = new boolean[places];
            for (int place = 0; place < places; place++) {
                kept[place] = inside(xOf(place), yOf(place)) && part[place] != componentPart[k];
            }
            for (boolean changed = true; changed; ) {
                changed = false;
                for (int place = 0; place < places; place++) {
                    if (!kept[place]) {
                        continue;
                    }
                    for (int other : candidates[place]) {
                        if (beside(place, other) && !kept[other] && part[other] != componentPart[k]) {
                            kept[place] = false;
                            changed = true;
                        }
                    }
                }
            }
            return kept;
        }

        @Override
        public String toString() {
            StringBuilder text = new StringBuilder();
            for (boolean[] row : pixel) {
                for (boolean black : row) {
                    text.append(black ? '#' : '.');
                }
                text.append('/');
            }
            return text.toString();
        }
    }
}
