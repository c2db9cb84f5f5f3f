import java.util.ArrayList;
import java.util.List;

/** The boundary cases of promises 8 to 14 and 18: tours, their codes and what a road is worth. */
public final class TourBoundaryTest {
    private static final int OPEN = TourBounds.OPEN;
    private static final int REQUIRED = TourBounds.REQUIRED;
    private static final int CLOSED = TourBounds.CLOSED;
    private static final int[] TOURS = {0, 0, 1, 2, 6, 24, 120, 720};

    public static void main(String[] args) throws IllegalAccessException {
        Checks.runAll(TourBoundaryTest.class);
    }

    /** The ring 0123 costs 10, 0213 costs 54, 0132 costs 56. */
    private static TourBounds square() {
        TourBounds x = new TourBounds(4);
        x.price(0, 1, 4);
        x.price(1, 2, 1);
        x.price(2, 3, 2);
        x.price(0, 3, 3);
        x.price(0, 2, 20);
        x.price(1, 3, 30);
        return x;
    }

    /** Every road is closed but those of one ring. */
    private static TourBounds ring(int... towns) {
        TourBounds x = Checks.allMarked(towns.length, CLOSED);
        for (int k = 0; k < towns.length; k++) {
            x.mark(towns[k], towns[(k + 1) % towns.length], OPEN);
        }
        return x;
    }

    private static TourBounds withRoads(int n, int how, int[]... roads) {
        TourBounds x = new TourBounds(n);
        for (int[] road : roads) {
            x.mark(road[0], road[1], how);
        }
        return x;
    }

    /** Objects without an allowed tour, each for another reason. */
    private static List<TourBounds> tourless() {
        List<TourBounds> all = new ArrayList<>();
        for (int n = 2; n <= 7; n++) {
            all.add(Checks.stuck(n));
            all.add(Checks.allMarked(n, CLOSED));
        }
        for (int n = 4; n <= 7; n++) {
            all.add(Checks.allMarked(n, REQUIRED));
            // Three roads of one town.
            all.add(withRoads(n, REQUIRED, new int[] {0, 1}, new int[] {2, 0}, new int[] {0, 3}));
            // A ring that leaves out a town.
            all.add(withRoads(n, REQUIRED, new int[] {0, 1}, new int[] {1, 2}, new int[] {2, 0}));
        }
        // Just one road for the last town of five.
        all.add(withRoads(5, CLOSED, new int[] {4, 0}, new int[] {4, 1}, new int[] {4, 2}));
        // Just one road for town 1, and that one required.
        TourBounds mixed = withRoads(4, CLOSED, new int[] {0, 1}, new int[] {1, 3});
        mixed.mark(1, 2, REQUIRED);
        all.add(mixed);
        return all;
    }

    // Promise 8

    private static void promise08NoTourIsMinus1() {
        for (TourBounds x : tourless()) {
            Checks.due("best(), n = " + x.towns(), x.best(), -1);
        }
    }

    private static void promise08NoTourAtPrice0IsMinus1() {
        for (TourBounds x : tourless()) {
            x.line(0, 0);
            Checks.due("best(), n = " + x.towns(), x.best(), -1);
        }
    }

    private static void promise08TourForNothingIs0() {
        for (int n = 2; n <= 7; n++) {
            Checks.due("best(), all at 0, n = " + n, Checks.allAt(n, 0).best(), 0);
        }
    }

    private static void promise08DearestTourIs40ForEachRoad() {
        for (int n = 2; n <= 7; n++) {
            Checks.due("best(), all at 40, n = " + n, Checks.allAt(n, 40).best(), 40 * n);
        }
    }

    private static void promise08TwoTownsPayTheirRoadTwice() {
        for (int price = 0; price <= 40; price++) {
            TourBounds x = new TourBounds(2);
            x.price(1, 0, price);
            Checks.due("best() at " + price, x.best(), 2 * price);
        }
    }

    private static void promise08OnlyAllowedToursCount() {
        TourBounds x = square();
        Checks.due("best()", x.best(), 10);
        x.mark(0, 3, CLOSED);
        Checks.due("best() without 0-3", x.best(), 56);
        x.mark(0, 3, OPEN);
        Checks.due("best() with 0-3 again", x.best(), 10);
        x.mark(1, 3, REQUIRED);
        Checks.due("best() with 1-3", x.best(), 54);
        x.mark(0, 1, REQUIRED);
        Checks.due("best() with 1-3 and 0-1", x.best(), 56);
        x.mark(0, 2, CLOSED);
        Checks.due("best() with none left", x.best(), -1);
    }

    private static void promise08OneRingIsLeft() {
        TourBounds x = ring(0, 5, 4, 3, 2, 1, 6);
        Checks.due("best() of one ring", x.best(), 70);
        x.price(6, 0, 40);
        x.price(0, 1, 0);
        Checks.due("best() of one ring, its last road dearer", x.best(), 100);
        x.price(0, 5, 0);
        Checks.due("best() of one ring, its first road cheaper", x.best(), 90);
    }

    // Promise 9

    private static void promise09NoTourIsMinus1() {
        for (TourBounds x : tourless()) {
            Checks.due("bestCode(), n = " + x.towns(), x.bestCode(), -1);
        }
    }

    private static void promise09AmongEqualPricesTheLeastCode() {
        int[] least = {0, 0, 1, 9, 66, 466, 3267, 22875};
        for (int n = 2; n <= 7; n++) {
            for (int price : new int[] {0, 10, 40}) {
                Checks.due("bestCode(), all at " + price, Checks.allAt(n, price).bestCode(), least[n]);
            }
        }
    }

    private static void promise09TheLeastCodeAmongThoseAllowed() {
        TourBounds x = new TourBounds(4);
        x.mark(1, 2, CLOSED);
        Checks.due("bestCode() without 1-2", x.bestCode(), Checks.code(1, 3, 2));
        x.mark(0, 1, CLOSED);
        Checks.due("bestCode() without 1-2, 0-1", x.bestCode(), -1);
        x.mark(1, 2, OPEN);
        Checks.due("bestCode() without 0-1", x.bestCode(), Checks.code(2, 1, 3));
        x.mark(0, 1, OPEN);
        x.mark(1, 3, REQUIRED);
        Checks.due("bestCode() with 1-3", x.bestCode(), Checks.code(1, 3, 2));
        x.mark(0, 3, REQUIRED);
        Checks.due("bestCode() with 1-3, 0-3", x.bestCode(), Checks.code(2, 1, 3));
    }

    private static void promise09ALowerPriceComesBeforeALowerCode() {
        TourBounds x = new TourBounds(4);
        x.price(1, 3, 9);
        Checks.due("bestCode() with 1-3 at 9", x.bestCode(), Checks.code(1, 3, 2));
        x.price(0, 1, 11);
        x.price(2, 3, 11);
        Checks.due("bestCode() with 0-1 and 2-3 at 11", x.bestCode(), Checks.code(2, 1, 3));
    }

    private static void promise09TheGreatestBestCodeOfAll() {
        Checks.due("two towns", ring(0, 1).bestCode(), 1);
        Checks.due("three towns", ring(0, 2, 1).bestCode(), Checks.code(1, 2));
        Checks.due("seven towns", ring(0, 6, 1, 2, 3, 4, 5).bestCode(), Checks.code(5, 4, 3, 2, 1, 6));
    }

    // Promise 10

    private static void promise10NoTourIs0() {
        for (TourBounds x : tourless()) {
            Checks.due("bestTours(), n = " + x.towns(), x.bestTours(), 0);
        }
    }

    private static void promise10NoTourAtPrice0Is0() {
        for (TourBounds x : tourless()) {
            x.line(0, 0);
            Checks.due("bestTours(), n = " + x.towns(), x.bestTours(), 0);
        }
    }

    private static void promise10AllToursAtOnePrice() {
        for (int n = 2; n <= 7; n++) {
            for (int price : new int[] {0, 10, 40}) {
                Checks.due("bestTours(), all at " + price, Checks.allAt(n, price).bestTours(), TOURS[n]);
            }
        }
    }

    private static void promise10FewestTours() {
        Checks.due("bestTours() of two towns", new TourBounds(2).bestTours(), 1);
        Checks.due("bestTours() of three towns", new TourBounds(3).bestTours(), 2);
        Checks.due("bestTours() of one ring", ring(0, 3, 6, 2, 5, 1, 4).bestTours(), 2);
        Checks.due("bestTours() of the square", square().bestTours(), 2);
    }

    private static void promise10APriceOneOffDoesNotCount() {
        TourBounds x = new TourBounds(4);
        x.price(0, 1, 11);
        Checks.due("bestTours() with 0-1 at 11", x.bestTours(), 2);
        x.price(0, 1, 9);
        Checks.due("bestTours() with 0-1 at 9", x.bestTours(), 4);
    }

    private static void promise10ToursNotAllowedDoNotCount() {
        TourBounds x = new TourBounds(4);
        x.mark(1, 2, CLOSED);
        Checks.due("bestTours() without 1-2", x.bestTours(), 2);
        x.price(1, 2, 0);
        Checks.due("bestTours() without 1-2 for nothing", x.bestTours(), 2);
        x.mark(1, 2, REQUIRED);
        Checks.due("bestTours() with 1-2", x.bestTours(), 4);
    }

    // Promise 11

    private static void promise11NoTourIs0() {
        for (TourBounds x : tourless()) {
            Checks.due("allowed(), n = " + x.towns(), x.allowed(), 0);
        }
    }

    private static void promise11AllTours() {
        for (int n = 2; n <= 7; n++) {
            Checks.due("allowed(), n = " + n, new TourBounds(n).allowed(), TOURS[n]);
        }
    }

    private static void promise11EveryRoadRequiredOfTwoAndThreeTowns() {
        Checks.due("allowed(), n = 2", Checks.allMarked(2, REQUIRED).allowed(), 1);
        Checks.due("allowed(), n = 3", Checks.allMarked(3, REQUIRED).allowed(), 2);
    }

    private static void promise11OneRoadMarked() {
        // Of (n-1)! tours 2 (n-2)! use one road, as each of them has n of n (n-1) / 2 roads.
        int[] with = {0, 0, 1, 2, 4, 12, 48, 240};
        for (int n = 3; n <= 7; n++) {
            for (int b = 1; b < n; b++) {
                for (int a = 0; a < b; a++) {
                    String road = "allowed(), n = " + n + ", " + a + "-" + b;
                    TourBounds x = withRoads(n, REQUIRED, new int[] {a, b});
                    Checks.due(road + " required", x.allowed(), with[n]);
                    x.mark(a, b, CLOSED);
                    Checks.due(road + " closed", x.allowed(), TOURS[n] - with[n]);
                    x.mark(a, b, OPEN);
                    Checks.due(road + " open", x.allowed(), TOURS[n]);
                }
            }
        }
    }

    private static void promise11OneRingIsLeft() {
        Checks.due("allowed() of one ring", ring(0, 6, 1, 5, 2, 4, 3).allowed(), 2);
        TourBounds x = new TourBounds(7);
        for (int k = 0; k < 7; k++) {
            x.mark(k, (k + 1) % 7, REQUIRED);
        }
        Checks.due("allowed() with a ring required", x.allowed(), 2);
        x.mark(0, 2, REQUIRED);
        Checks.due("allowed() with a ring and one road more", x.allowed(), 0);
    }

    private static void promise11PricesPlayNoPart() {
        for (int price : new int[] {0, 40}) {
            TourBounds x = Checks.allAt(5, price);
            x.mark(1, 2, CLOSED);
            Checks.due("allowed(), all at " + price, x.allowed(), 12);
        }
    }

    // Promises 12 and 13: what is the code of a tour

    /** Numbers that are near the code of a tour, or at the ends of int, and are none. */
    private static List<Integer> notCodes(int n) {
        List<Integer> codes = Checks.codes(n);
        List<Integer> wrong = new ArrayList<>(List.of(
                Checks.LOWEST, Checks.LOWEST + 1, -49, -7, -1, 0, Checks.HIGHEST - 1, Checks.HIGHEST));
        for (int i = 0; i < codes.size(); i++) {
            if (i < 4 || i >= codes.size() - 4 || i % 50 == 0) {
                addNeighbours(wrong, n, codes.get(i));
            }
        }
        return wrong;
    }

    private static void addNeighbours(List<Integer> wrong, int n, int code) {
        wrong.addAll(List.of(code / 7, code * 7, code * 7 + 1, code * 7 + 6, -code, ~code, code + Checks.LOWEST));
        int place = 1;
        for (int k = 1; k < n; k++) {
            int digit = code / place % 7;
            for (int other = 0; other < 7; other++) {
                if (other != digit) {
                    // A 0, a town that is not good, or a town that stands there twice.
                    wrong.add(code + (other - digit) * place);
                }
            }
            place *= 7;
        }
        for (long more = place; code + more <= Checks.HIGHEST; more *= 7) {
            wrong.add((int) (code + more));
        }
    }

    private static void dueNoCode(String name, int n, boolean prices) {
        TourBounds x = new TourBounds(n);
        int calls = 0;
        for (int code : notCodes(n)) {
            // No object is promised to answer more than 512 calls.
            if (calls % 500 == 0) {
                x = Checks.busy(n);
            }
            calls++;
            Checks.due(name + "(" + code + "), n = " + n, prices ? x.priceOfTour(code) : x.isAllowed(code), -1);
        }
    }

    private static void promise12NoTourIsMinus1() {
        for (int n = 2; n <= 7; n++) {
            dueNoCode("priceOfTour", n, true);
        }
    }

    private static void promise12CodesOfFewerOrMoreTownsAreNone() {
        for (int n = 2; n <= 7; n++) {
            for (int other = 2; other <= 7; other++) {
                List<Integer> codes = Checks.codes(other);
                TourBounds x = new TourBounds(n);
                int want = n == other ? 10 * n : -1;
                int first = codes.get(0);
                int last = codes.get(codes.size() - 1);
                Checks.due("priceOfTour(" + first + "), n = " + n, x.priceOfTour(first), want);
                Checks.due("priceOfTour(" + last + "), n = " + n, x.priceOfTour(last), want);
                Checks.due("isAllowed(" + first + "), n = " + n, x.isAllowed(first), n == other ? 1 : -1);
                Checks.due("isAllowed(" + last + "), n = " + n, x.isAllowed(last), n == other ? 1 : -1);
            }
        }
    }

    private static void promise12LeastAndGreatestCode() {
        int[][] ends = {{2, 1, 1}, {3, 9, 15}, {4, 66, 162}, {5, 466, 1534}, {6, 3267, 13539}, {7, 22875, 114381}};
        for (int[] end : ends) {
            TourBounds x = new TourBounds(end[0]);
            for (int side = 1; side <= 2; side++) {
                int code = end[side];
                Checks.due("priceOfTour(" + code + ")", x.priceOfTour(code), 10 * end[0]);
                Checks.due("isAllowed(" + code + ")", x.isAllowed(code), 1);
                Checks.due("priceOfTour(" + (code - 1) + ")", x.priceOfTour(code - 1), -1);
                Checks.due("isAllowed(" + (code - 1) + ")", x.isAllowed(code - 1), -1);
                Checks.due("priceOfTour(" + (code + 1) + ")", x.priceOfTour(code + 1), -1);
                Checks.due("isAllowed(" + (code + 1) + ")", x.isAllowed(code + 1), -1);
            }
        }
    }

    private static void promise12AllowedOrNot() {
        for (int how = OPEN; how <= CLOSED; how++) {
            TourBounds x = square();
            for (int b = 1; b < 4; b++) {
                for (int a = 0; a < b; a++) {
                    x.mark(a, b, how);
                }
            }
            Checks.due("priceOfTour 123, all marked " + how, x.priceOfTour(Checks.code(1, 2, 3)), 10);
            Checks.due("priceOfTour 321, all marked " + how, x.priceOfTour(Checks.code(3, 2, 1)), 10);
            Checks.due("priceOfTour 213, all marked " + how, x.priceOfTour(Checks.code(2, 1, 3)), 54);
            Checks.due("priceOfTour 231, all marked " + how, x.priceOfTour(Checks.code(2, 3, 1)), 56);
        }
    }

    private static void promise12LeastAndGreatestPrice() {
        for (int n = 2; n <= 7; n++) {
            int code = Checks.codes(n).get(0);
            Checks.due("priceOfTour, all at 0", Checks.allAt(n, 0).priceOfTour(code), 0);
            Checks.due("priceOfTour, all at 40", Checks.allAt(n, 40).priceOfTour(code), 40 * n);
        }
    }

    private static void promise12TwoTownsPayTheirRoadTwice() {
        for (int price = 0; price <= 40; price++) {
            TourBounds x = new TourBounds(2);
            x.price(0, 1, price);
            Checks.due("priceOfTour(1) at " + price, x.priceOfTour(1), 2 * price);
        }
    }

    private static void promise12EachRoadOfATourIsPaidOnce() {
        for (int n = 3; n <= 7; n++) {
            List<Integer> codes = Checks.codes(n);
            for (int code : new int[] {codes.get(0), codes.get(codes.size() / 2), codes.get(codes.size() - 1)}) {
                TourBounds x = Checks.allAt(n, 0);
                for (int b = 1; b < n; b++) {
                    for (int a = 0; a < b; a++) {
                        x.price(a, b, 1);
                        Checks.due("priceOfTour(" + code + ") with just " + a + "-" + b + " at 1",
                                x.priceOfTour(code), Checks.uses(n, code, a, b) ? 1 : 0);
                        x.price(a, b, 0);
                    }
                }
            }
        }
    }

    private static void promise13NoTourIsMinus1() {
        for (int n = 2; n <= 7; n++) {
            dueNoCode("isAllowed", n, false);
        }
    }

    private static void promise13NoTourIsMinus1EvenIfNoneIsAllowed() {
        for (TourBounds x : tourless()) {
            for (int code : new int[] {Checks.LOWEST, -1, 0, 7, Checks.HIGHEST}) {
                Checks.due("isAllowed(" + code + "), n = " + x.towns(), x.isAllowed(code), -1);
            }
        }
    }

    private static void promise13TourNotAllowedIs0() {
        for (TourBounds x : tourless()) {
            int n = x.towns();
            for (int code : Checks.codes(n).subList(0, TOURS[n] / 2 + 1)) {
                Checks.due("isAllowed(" + code + "), n = " + n, x.isAllowed(code), 0);
            }
        }
    }

    private static void promise13OneClosedRoadShutsItsTours() {
        dueOneMark(CLOSED);
    }

    private static void promise13OneRequiredRoadShutsAllOtherTours() {
        dueOneMark(REQUIRED);
    }

    private static void dueOneMark(int how) {
        for (int n = 2; n <= 7; n++) {
            List<Integer> codes = Checks.codes(n);
            for (int b = 1; b < n; b++) {
                for (int a = 0; a < b; a++) {
                    TourBounds x = withRoads(n, how, new int[] {a, b});
                    // A part of the 720 tours, as no object is promised to answer more than 512 calls.
                    for (int i = 0; i < codes.size(); i += n == 7 ? 7 : 1) {
                        boolean used = Checks.uses(n, codes.get(i), a, b);
                        Checks.due("isAllowed(" + codes.get(i) + ") with " + a + "-" + b + " marked " + how,
                                x.isAllowed(codes.get(i)), used == (how == REQUIRED) ? 1 : 0);
                    }
                }
            }
        }
    }

    private static void promise13EveryRequiredRoadIsNeeded() {
        TourBounds x = new TourBounds(5);
        int tour = Checks.code(1, 2, 3, 4);
        x.mark(0, 1, REQUIRED);
        x.mark(2, 3, REQUIRED);
        x.mark(4, 0, REQUIRED);
        Checks.due("isAllowed 1234 with three of its roads", x.isAllowed(tour), 1);
        Checks.due("isAllowed 1324 with three roads", x.isAllowed(Checks.code(1, 3, 2, 4)), 1);
        Checks.due("isAllowed 1243, which lacks one", x.isAllowed(Checks.code(1, 2, 4, 3)), 0);
        Checks.due("isAllowed 2341, which lacks one", x.isAllowed(Checks.code(2, 3, 4, 1)), 0);
        x.mark(1, 3, REQUIRED);
        Checks.due("isAllowed 1234 with a fourth that it lacks", x.isAllowed(tour), 0);
    }

    private static void promise13TwoTowns() {
        TourBounds x = new TourBounds(2);
        Checks.due("isAllowed(1), open", x.isAllowed(1), 1);
        x.mark(0, 1, REQUIRED);
        Checks.due("isAllowed(1), required", x.isAllowed(1), 1);
        x.mark(0, 1, CLOSED);
        Checks.due("isAllowed(1), closed", x.isAllowed(1), 0);
    }

    // Promise 14

    private static void promise14AnyIntIsALimit() {
        for (int n = 2; n <= 7; n++) {
            TourBounds x = new TourBounds(n);
            for (int limit : new int[] {Checks.LOWEST, Checks.LOWEST + 1, -41, -1, 0, 1, 10 * n - 1}) {
                Checks.due("within(" + limit + "), n = " + n, x.within(limit), 0);
            }
            for (int limit : new int[] {10 * n, 10 * n + 1, 41 * n, Checks.HIGHEST - 1, Checks.HIGHEST}) {
                Checks.due("within(" + limit + "), n = " + n, x.within(limit), TOURS[n]);
            }
        }
    }

    private static void promise14ALimitIsItselfWithin() {
        int[][] cases = {{9, 0}, {10, 2}, {11, 2}, {53, 2}, {54, 4}, {55, 4}, {56, 6}, {57, 6}};
        for (int[] c : cases) {
            Checks.due("within(" + c[0] + ")", square().within(c[0]), c[1]);
        }
    }

    private static void promise14ToursForNothing() {
        for (int n = 2; n <= 7; n++) {
            TourBounds x = Checks.allAt(n, 0);
            Checks.due("within(-1), all at 0", x.within(-1), 0);
            Checks.due("within(0), all at 0", x.within(0), TOURS[n]);
        }
    }

    private static void promise14DearestTours() {
        for (int n = 2; n <= 7; n++) {
            TourBounds x = Checks.allAt(n, 40);
            Checks.due("within(40 n - 1), all at 40", x.within(40 * n - 1), 0);
            Checks.due("within(40 n), all at 40", x.within(40 * n), TOURS[n]);
        }
    }

    private static void promise14ToursNotAllowedDoNotCount() {
        TourBounds x = square();
        x.mark(1, 2, CLOSED);
        Checks.due("within(55) without 1-2", x.within(55), 0);
        Checks.due("within(56) without 1-2", x.within(56), 2);
        Checks.due("within(greatest) without 1-2", x.within(Checks.HIGHEST), 2);
        x.mark(1, 2, REQUIRED);
        Checks.due("within(53) with 1-2", x.within(53), 2);
        Checks.due("within(greatest) with 1-2", x.within(Checks.HIGHEST), 4);
    }

    private static void promise14NoTourIs0() {
        for (TourBounds x : tourless()) {
            for (int limit : new int[] {Checks.LOWEST, -1, 0, 280, Checks.HIGHEST}) {
                Checks.due("within(" + limit + "), n = " + x.towns(), x.within(limit), 0);
            }
        }
    }

    // Promise 18

    private static void promise18TownNotGoodIsMinus1() {
        for (int n = 2; n <= 7; n++) {
            int last = n - 1;
            for (int bad : Checks.badTowns(n)) {
                Checks.dueRefused("worth(" + bad + ", 0)", n, x -> x.worth(bad, 0), -1);
                Checks.dueRefused("worth(0, " + bad + ")", n, x -> x.worth(0, bad), -1);
                Checks.dueRefused("worth(" + bad + ", last)", n, x -> x.worth(bad, last), -1);
            }
        }
    }

    private static void promise18SameTownIsMinus2() {
        for (int n = 2; n <= 7; n++) {
            for (int t = 0; t < n; t++) {
                int town = t;
                Checks.dueRefused("worth(" + t + ", " + t + ")", n, x -> x.worth(town, town), -2);
            }
        }
    }

    private static void promise18NoTourNowIsMinus3() {
        for (TourBounds x : tourless()) {
            int n = x.towns();
            for (int a = 0; a < n; a++) {
                for (int b = 0; b < n; b++) {
                    if (a != b) {
                        Checks.due("worth(" + a + ", " + b + "), n = " + n, x.worth(a, b), -3);
                    }
                }
            }
        }
    }

    private static void promise18RequiredRoadIsMinus4() {
        for (int n = 2; n <= 7; n++) {
            for (int b = 1; b < n; b++) {
                for (int a = 0; a < b; a++) {
                    TourBounds x = withRoads(n, REQUIRED, new int[] {a, b});
                    Checks.due("worth(" + a + ", " + b + ") required, n = " + n, x.worth(a, b), -4);
                    Checks.due("worth(" + b + ", " + a + ") required, n = " + n, x.worth(b, a), -4);
                }
            }
        }
    }

    private static void promise18NoTourThenIsMinus4() {
        Checks.due("the road of two towns", new TourBounds(2).worth(1, 0), -4);
        for (int a = 0; a < 3; a++) {
            Checks.due("a road of three towns", new TourBounds(3).worth(a, (a + 1) % 3), -4);
        }
        TourBounds x = ring(0, 6, 1, 5, 2, 4, 3);
        Checks.due("the first road of one ring", x.worth(0, 6), -4);
        Checks.due("an inner road of one ring", x.worth(2, 5), -4);
        Checks.due("the last road of one ring", x.worth(3, 0), -4);
        // Each tour that has 0-1 and 0-2 lacks 0-3, and without 2-3 it must have 1-3.
        TourBounds y = withRoads(4, REQUIRED, new int[] {0, 1}, new int[] {0, 2});
        Checks.due("a road that the required ones leave over", y.worth(1, 3), -4);
        Checks.due("a road that they shut out", y.worth(0, 3), 0);
    }

    private static void promise18ClosedRoadIs0() {
        for (int n = 4; n <= 7; n++) {
            for (int b = 1; b < n; b++) {
                for (int a = 0; a < b; a++) {
                    TourBounds x = new TourBounds(n);
                    x.sow(17, 5);
                    x.mark(a, b, CLOSED);
                    Checks.due("worth(" + a + ", " + b + ") closed, n = " + n, x.worth(a, b), 0);
                    Checks.due("worth(" + b + ", " + a + ") closed, n = " + n, x.worth(b, a), 0);
                }
            }
        }
        TourBounds y = ring(0, 6, 1, 5, 2, 4, 3);
        Checks.due("a closed road beside one ring", y.worth(0, 1), 0);
    }

    private static void promise18RoadThatCanBeSparedIs0() {
        for (int n = 4; n <= 7; n++) {
            for (int b = 1; b < n; b++) {
                for (int a = 0; a < b; a++) {
                    Checks.due("worth(" + a + ", " + b + ") among equals", new TourBounds(n).worth(a, b), 0);
                }
            }
        }
        Checks.due("a road that the best tour lacks", square().worth(0, 2), 0);
    }

    private static void promise18LeastAndGreatestRise() {
        TourBounds x = new TourBounds(4);
        x.price(0, 2, 11);
        Checks.due("a rise by 1", x.worth(0, 1), 1);
        TourBounds y = Checks.allAt(4, 0);
        y.price(0, 2, 40);
        y.price(1, 3, 40);
        Checks.due("a rise from 0 to 80", y.worth(2, 3), 80);
        TourBounds z = Checks.allAt(7, 40);
        for (int k = 0; k < 7; k++) {
            z.price(k, (k + 1) % 7, 0);
        }
        Checks.due("seven towns, a rise from 0 to 80", z.worth(6, 0), 80);
    }

    private static void promise18BadTownComesBeforeAllElse() {
        for (TourBounds x : tourless()) {
            int n = x.towns();
            Checks.due("worth(n, n) without a tour", x.worth(n, n), -1);
            Checks.due("worth(-1, 0) without a tour", x.worth(-1, 0), -1);
            Checks.due("worth(0, n) without a tour", x.worth(0, n), -1);
        }
        for (int n = 2; n <= 7; n++) {
            for (int bad : Checks.badTowns(n)) {
                Checks.dueRefused("worth(" + bad + " twice)", n, x -> x.worth(bad, bad), -1);
            }
        }
    }

    private static void promise18SameTownComesBeforeNoTourNow() {
        for (TourBounds x : tourless()) {
            for (int t = 0; t < x.towns(); t++) {
                Checks.due("worth(" + t + ", " + t + ") without a tour", x.worth(t, t), -2);
            }
        }
    }

    private static void promise18NoTourNowComesBeforeRequiredAndClosed() {
        TourBounds x = withRoads(4, REQUIRED, new int[] {0, 1}, new int[] {0, 2}, new int[] {0, 3});
        Checks.due("a required road without a tour", x.worth(0, 1), -3);
        Checks.due("an open road without a tour", x.worth(1, 2), -3);
        x.mark(1, 2, CLOSED);
        Checks.due("a closed road without a tour", x.worth(1, 2), -3);
        TourBounds two = withRoads(2, CLOSED, new int[] {0, 1});
        Checks.due("the closed road of two towns", two.worth(0, 1), -3);
    }

    private static void promise18WorthChangesNothing() {
        for (int n = 2; n <= 7; n++) {
            for (int b = 1; b < n; b++) {
                for (int a = 0; a < b; a++) {
                    int from = a;
                    int to = b;
                    Checks.dueNoChange("worth(" + a + ", " + b + ")", n, x -> x.worth(from, to));
                }
            }
        }
    }
}
