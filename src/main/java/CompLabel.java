/** Components, holes and nesting of a small black and white picture. */
public final class CompLabel {
    public static final int BAD = -1;
    public static final int NONE = -2;

    private static final int LEAST_SIDE = 2;
    private static final int GREATEST_SIDE = 12;

    // The greatest picture with a margin one place wide: the margin is white and hangs together,
    // so it stands for all the places outside the picture.
    private static final int SIDE = 14;
    private static final int PLACES = 196;
    private static final int OUTSIDE = 0;

    // The ways from a place are the cells of a 3 by 3 square around it, by rows: the odd ones
    // lead beside it, the even ones cornerwise, and the middle one to itself.
    private static final int WAYS = 9;

    private static final int UNMARKED = -1;
    private static final int OFF_GRID = -1;

    private final int width;
    private final int height;
    private final boolean[] blackAt = new boolean[PLACES];

    // What survey() finds, kept in step with the picture. "Part" means a component or a region.
    private int componentCount;
    private int regionCount;
    private final int[] componentStart = new int[PLACES];
    private final int[] regionStart = new int[PLACES];
    private final int[] partNumber = new int[PLACES];
    private final int[] depthAt = new int[PLACES];
    // For each place of a part, one and the same place beside the part and one less deep.
    private final int[] outerNeighbour = new int[PLACES];

    // Room for single calls; nothing in it is kept from one call to the next.
    private final int[] queue = new int[PLACES];
    private final boolean[] alone = new boolean[PLACES];
    private final int[] reached = new int[PLACES];

    public CompLabel(int columns, int rows) {
        width = clampSide(columns);
        height = clampSide(rows);
        survey();
    }

    public boolean set(int x, int y, boolean black) {
        if (!inPicture(x, y)) {
            return false;
        }
        int place = placeOf(x, y);
        blackAt[place] = black;
        survey();
        return true;
    }

    public boolean invert(int x, int y, int wide, int high) {
        if (!inPicture(x, y)) {
            return false;
        }
        if (wide < 1 || wide > width - x || high < 1 || high > height - y) {
            return false;
        }
        for (int row = y; row < y + high; row++) {
            for (int column = x; column < x + wide; column++) {
                int place = placeOf(column, row);
                blackAt[place] = !blackAt[place];
            }
        }
        survey();
        return true;
    }

    public boolean isBlack(int x, int y) {
        return inPicture(x, y) && blackAt[placeOf(x, y)];
    }

    public int components() {
        return componentCount;
    }

    public int euler() {
        int innerRegions = regionCount - 1;
        return componentCount - innerRegions;
    }

    public int label(int x, int y) {
        if (!inPicture(x, y)) {
            return BAD;
        }
        int place = placeOf(x, y);
        return blackAt[place] ? partNumber[place] : NONE;
    }

    public int area(int k) {
        if (!isComponent(k)) {
            return BAD;
        }
        int pixels = 0;
        for (int place = 0; place < PLACES; place++) {
            if (inComponent(place, k)) {
                pixels++;
            }
        }
        return pixels;
    }

    public int holes(int k) {
        if (!isComponent(k)) {
            return BAD;
        }
        int count = 0;
        // Region 0 is the outer one: its places come first in the order of the numbering.
        for (int region = 1; region < regionCount; region++) {
            int holder = outerNeighbour[regionStart[region]];
            if (inComponent(holder, k)) {
                count++;
            }
        }
        return count;
    }

    public int around(int k) {
        if (!isComponent(k)) {
            return BAD;
        }
        int start = componentStart[k];
        if (depthAt[start] == 1) {
            return NONE;
        }
        int inHole = outerNeighbour[start];
        int holder = outerNeighbour[inHole];
        return partNumber[holder];
    }

    public int depth(int x, int y) {
        return inPicture(x, y) ? depthAt[placeOf(x, y)] : BAD;
    }

    public int enclosed(int k) {
        if (!isComponent(k)) {
            return BAD;
        }
        // In a picture of component k alone, the steps between white places are just those that
        // lead beside and avoid the component.
        for (int place = 0; place < PLACES; place++) {
            alone[place] = inComponent(place, k);
        }
        unmarkAll(reached);
        markPart(alone, reached, OUTSIDE, 0);
        int count = 0;
        for (int place = 0; place < PLACES; place++) {
            if (!alone[place] && reached[place] == UNMARKED) {
                count++;
            }
        }
        return count;
    }

    private static int clampSide(int length) {
        if (length < LEAST_SIDE) {
            return LEAST_SIDE;
        }
        return length > GREATEST_SIDE ? GREATEST_SIDE : length;
    }

    private boolean inPicture(int x, int y) {
        return x >= 0 && x < width && y >= 0 && y < height;
    }

    private static int placeOf(int x, int y) {
        return (y + 1) * SIDE + x + 1;
    }

    private boolean isComponent(int k) {
        return k >= 0 && k < componentCount;
    }

    private boolean inComponent(int place, int k) {
        return blackAt[place] && partNumber[place] == k;
    }

    private void survey() {
        numberParts();
        measureDepths();
    }

    private void numberParts() {
        unmarkAll(partNumber);
        componentCount = 0;
        regionCount = 0;
        for (int place = 0; place < PLACES; place++) {
            if (partNumber[place] != UNMARKED) {
                continue;
            }
            if (blackAt[place]) {
                componentStart[componentCount] = place;
                markPart(blackAt, partNumber, place, componentCount);
                componentCount++;
            } else {
                regionStart[regionCount] = place;
                markPart(blackAt, partNumber, place, regionCount);
                regionCount++;
            }
        }
    }

    private void measureDepths() {
        unmarkAll(depthAt);
        unmarkAll(outerNeighbour);
        markPart(blackAt, depthAt, OUTSIDE, 0);
        // Nothing lies farther out than the outer region: it points to itself, so that every entry
        // is a place.
        markPart(blackAt, outerNeighbour, OUTSIDE, OUTSIDE);
        // A straight way from the margin has fewer than SIDE moves, so no depth comes up to SIDE.
        for (int level = 1; level < SIDE; level++) {
            for (int place = 0; place < PLACES; place++) {
                if (depthAt[place] != UNMARKED) {
                    continue;
                }
                int neighbour = besideOfDepth(place, level - 1);
                if (neighbour != OFF_GRID) {
                    markPart(blackAt, depthAt, place, level);
                    markPart(blackAt, outerNeighbour, place, neighbour);
                }
            }
        }
    }

    private int besideOfDepth(int place, int wanted) {
        for (int way = 1; way < WAYS; way += 2) {
            int neighbour = placeToward(place, way);
            if (neighbour != OFF_GRID && depthAt[neighbour] == wanted) {
                return neighbour;
            }
        }
        return OFF_GRID;
    }

    private static void unmarkAll(int[] marks) {
        for (int place = 0; place < PLACES; place++) {
            marks[place] = UNMARKED;
        }
    }

    /** Marks the places of the picture that steps lead to from start; none of them may be marked yet. */
    private void markPart(boolean[] picture, int[] marks, int start, int mark) {
        marks[start] = mark;
        queue[0] = start;
        int queued = 1;
        for (int taken = 0; taken < queued && taken < PLACES; taken++) {
            int place = queue[taken];
            // Black steps lead all ways, white ones only beside.
            int first = picture[place] ? 0 : 1;
            int stride = picture[place] ? 1 : 2;
            for (int way = first; way < WAYS; way += stride) {
                int next = placeToward(place, way);
                if (next != OFF_GRID && marks[next] == UNMARKED && picture[next] == picture[place]
                        && queued < PLACES) {
                    marks[next] = mark;
                    queue[queued] = next;
                    queued++;
                }
            }
        }
    }

    private static int placeToward(int place, int way) {
        int column = place % SIDE + way % 3 - 1;
        int row = place / SIDE + way / 3 - 1;
        if (column < 0 || column >= SIDE || row < 0 || row >= SIDE) {
            return OFF_GRID;
        }
        return row * SIDE + column;
    }
}
