/** Round trips through a few towns at least price, with roads that must or must not be used. */
public final class TourBounds {
    public static final int OPEN = 0;
    public static final int REQUIRED = 1;
    public static final int CLOSED = 2;

    private static final int LEAST_TOWNS = 2;
    private static final int MOST_TOWNS = 7;
    private static final int MOST_ROADS = 21;
    private static final int MOST_ROWS = 5040;
    private static final int BASE = 7;
    private static final int FIRST_PRICE = 10;
    private static final int MOST_PRICE = 40;
    private static final int PLACES = 41;

    private static final int BAD_TOWN = -1;
    private static final int SAME_TOWN = -2;
    private static final int BAD_VALUE = -3;
    private static final int BAD_SEED = -1;
    private static final int BAD_STEP = -2;
    private static final int NO_TOUR = -1;
    private static final int NO_PATH = -3;
    private static final int NO_TOUR_NOW = -3;
    private static final int NO_TOUR_THEN = -4;

    private final int n;

    /** The price of every road, by the road's number. */
    private final int[] prices = new int[MOST_ROADS];

    /**
     * Every order of the n towns as a number of n digits in base 7, rising. The tours come first:
     * the code of a tour is that of the row which begins with town 0, as a leading 0 adds nothing.
     */
    private final int[] rows = new int[MOST_ROWS];
    private final int tourCount;

    // Sets of roads: bit r stands for the road with number r. No road is in both.
    private int requiredRoads = 0;
    private int closedRoads = 0;

    public TourBounds(int towns) {
        n = towns < LEAST_TOWNS ? LEAST_TOWNS : towns > MOST_TOWNS ? MOST_TOWNS : towns;
        for (int road = 0; road < MOST_ROADS; road++) {
            prices[road] = FIRST_PRICE;
        }
        int count = 1;
        for (int length = 0; length < n; length++) {
            lengthenRows(count, length);
            count = count * (n - length);
        }
        tourCount = count / n;
    }

    public int towns() {
        return n;
    }

    public int price(int a, int b, int price) {
        int fault = pairFault(a, b);
        if (fault != 0) {
            return fault;
        }
        if (price < 0 || price > MOST_PRICE) {
            return BAD_VALUE;
        }
        int road = roadBetween(a, b);
        int before = prices[road];
        prices[road] = price;
        return before;
    }

    public int line(int seed, int step) {
        int fault = seedFault(seed, step);
        if (fault != 0) {
            return fault;
        }
        for (int b = 1; b < n; b++) {
            for (int a = 0; a < b; a++) {
                int apart = (seed + a * step) % PLACES - (seed + b * step) % PLACES;
                prices[roadBetween(a, b)] = apart < 0 ? -apart : apart;
            }
        }
        return 0;
    }

    public int sow(int seed, int bend) {
        int fault = seedFault(seed, bend);
        if (fault != 0) {
            return fault;
        }
        for (int b = 1; b < n; b++) {
            for (int a = 0; a < b; a++) {
                prices[roadBetween(a, b)] = (seed + 13 * a + 17 * b + a * b * bend) % PLACES;
            }
        }
        return 0;
    }

    public int mark(int a, int b, int how) {
        int fault = pairFault(a, b);
        if (fault != 0) {
            return fault;
        }
        if (how < OPEN || how > CLOSED) {
            return BAD_VALUE;
        }
        int road = 1 << roadBetween(a, b);
        int before = markOf(road);
        requiredRoads = how == REQUIRED ? requiredRoads | road : requiredRoads & ~road;
        closedRoads = how == CLOSED ? closedRoads | road : closedRoads & ~road;
        return before;
    }

    public int priceOf(int a, int b) {
        int fault = pairFault(a, b);
        if (fault == SAME_TOWN) {
            return 0;
        }
        return fault != 0 ? fault : prices[roadBetween(a, b)];
    }

    public int best() {
        int code = bestTourWithout(closedRoads);
        return code == NO_TOUR ? NO_TOUR : tourPrice(code);
    }

    public int bestCode() {
        return bestTourWithout(closedRoads);
    }

    public int bestTours() {
        int code = bestTourWithout(closedRoads);
        if (code == NO_TOUR) {
            return 0;
        }
        // No allowed tour is cheaper than the best one, so at most its price means just its price.
        int least = tourPrice(code);
        return within(least);
    }

    public int allowed() {
        int count = 0;
        for (int i = 0; i < tourCount; i++) {
            if (fits(rows[i], closedRoads)) {
                count++;
            }
        }
        return count;
    }

    public int priceOfTour(int code) {
        return isTour(code) ? tourPrice(code) : NO_TOUR;
    }

    public int isAllowed(int code) {
        if (!isTour(code)) {
            return NO_TOUR;
        }
        return fits(code, closedRoads) ? 1 : 0;
    }

    public int within(int limit) {
        int count = 0;
        for (int i = 0; i < tourCount; i++) {
            if (tourPrice(rows[i]) <= limit && fits(rows[i], closedRoads)) {
                count++;
            }
        }
        return count;
    }

    public int path(int a, int b) {
        int fault = pairFault(a, b);
        return fault != 0 ? fault : leastPath(a, b);
    }

    public int bestPath() {
        int least = NO_PATH;
        for (int b = 1; b < n; b++) {
            for (int a = 0; a < b; a++) {
                int found = leastPath(a, b);
                if (found != NO_PATH && (least == NO_PATH || found < least)) {
                    least = found;
                }
            }
        }
        return least;
    }

    public int span() {
        int joined = 1;
        int sum = 0;
        for (int k = 1; k < n; k++) {
            int town = nearestTown(joined);
            if (town < 0) {
                return NO_PATH;
            }
            sum += priceToJoin(joined, town);
            joined |= 1 << town;
        }
        return sum;
    }

    public int worth(int a, int b) {
        int fault = pairFault(a, b);
        if (fault != 0) {
            return fault;
        }
        int now = bestTourWithout(closedRoads);
        if (now == NO_TOUR) {
            return NO_TOUR_NOW;
        }
        int road = 1 << roadBetween(a, b);
        int then = bestTourWithout(closedRoads | road);
        // A road that is required and left out fits no tour, so this meets required roads too.
        return then == NO_TOUR ? NO_TOUR_THEN : tourPrice(then) - tourPrice(now);
    }

    private boolean isTown(int town) {
        return town >= 0 && town < n;
    }

    private int pairFault(int a, int b) {
        if (!isTown(a) || !isTown(b)) {
            return BAD_TOWN;
        }
        return a == b ? SAME_TOWN : 0;
    }

    private int seedFault(int seed, int step) {
        if (seed < 0 || seed >= PLACES) {
            return BAD_SEED;
        }
        return step < 0 || step >= PLACES ? BAD_STEP : 0;
    }

    /** The number, 0 .. 20, of the road between two different good towns, in either direction. */
    private int roadBetween(int a, int b) {
        return a < b ? b * (b - 1) / 2 + a : a * (a - 1) / 2 + b;
    }

    private int markOf(int road) {
        if ((requiredRoads & road) != 0) {
            return REQUIRED;
        }
        return (closedRoads & road) != 0 ? CLOSED : OPEN;
    }

    /**
     * Puts every town that a row still lacks behind it, for each of the first count rows. It goes
     * from the back, so that no row is written over before it has been read.
     */
    private void lengthenRows(int count, int length) {
        int end = count * (n - length);
        for (int i = count - 1; i >= 0; i--) {
            int row = rows[i];
            for (int town = n - 1; town >= 0; town--) {
                if (!holds(row, length, town)) {
                    end--;
                    rows[end] = row * BASE + town;
                }
            }
        }
    }

    private boolean holds(int row, int length, int town) {
        int rest = row;
        for (int k = 0; k < length; k++) {
            if (rest % BASE == town) {
                return true;
            }
            rest = rest / BASE;
        }
        return false;
    }

    private boolean isTour(int code) {
        for (int i = 0; i < tourCount; i++) {
            if (rows[i] == code) {
                return true;
            }
        }
        return false;
    }

    private int rowPrice(int row) {
        int sum = 0;
        int rest = row;
        for (int k = 1; k < n; k++) {
            int town = rest % BASE;
            rest = rest / BASE;
            sum += prices[roadBetween(town, rest % BASE)];
        }
        return sum;
    }

    private int rowRoads(int row) {
        int roads = 0;
        int rest = row;
        for (int k = 1; k < n; k++) {
            int town = rest % BASE;
            rest = rest / BASE;
            roads |= 1 << roadBetween(town, rest % BASE);
        }
        return roads;
    }

    private int tourPrice(int code) {
        return rowPrice(code) + prices[roadBetween(code % BASE, 0)];
    }

    /** Whether a tour uses none of the roads in shut and every required one. */
    private boolean fits(int code, int shut) {
        int roads = rowRoads(code) | 1 << roadBetween(code % BASE, 0);
        return (roads & shut) == 0 && (roads & requiredRoads) == requiredRoads;
    }

    /** The code of what would be the best tour if just the roads in shut were closed. */
    private int bestTourWithout(int shut) {
        int bestSoFar = NO_TOUR;
        int least = 0;
        for (int i = 0; i < tourCount; i++) {
            int price = tourPrice(rows[i]);
            // The codes rise, so that among equal prices the first one found is to stay.
            if ((bestSoFar == NO_TOUR || price < least) && fits(rows[i], shut)) {
                bestSoFar = rows[i];
                least = price;
            }
        }
        return bestSoFar;
    }

    private int leastPath(int from, int to) {
        int least = NO_PATH;
        // As the rows rise, those that begin with one town stand together, as many as the tours.
        int end = (from + 1) * tourCount;
        for (int i = from * tourCount; i < end; i++) {
            if (rows[i] % BASE == to && (rowRoads(rows[i]) & closedRoads) == 0) {
                int price = rowPrice(rows[i]);
                least = least == NO_PATH || price < least ? price : least;
            }
        }
        return least;
    }

    /** The least price of a road, not closed, between the joined towns and another one, or -3. */
    private int priceToJoin(int joined, int town) {
        int least = NO_PATH;
        for (int other = 0; other < n; other++) {
            if ((joined & 1 << other) != 0 && other != town) {
                int road = roadBetween(other, town);
                boolean usable = (closedRoads & 1 << road) == 0;
                if (usable && (least == NO_PATH || prices[road] < least)) {
                    least = prices[road];
                }
            }
        }
        return least;
    }

    /** The town that is cheapest to join to the joined ones, or -1 if none can be. */
    private int nearestTown(int joined) {
        int nearest = -1;
        int least = 0;
        for (int town = 0; town < n; town++) {
            if ((joined & 1 << town) == 0) {
                int price = priceToJoin(joined, town);
                if (price != NO_PATH && (nearest < 0 || price < least)) {
                    nearest = town;
                    least = price;
                }
            }
        }
        return nearest;
    }
}
