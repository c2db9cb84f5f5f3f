/** The boundary cases of promises 15 to 17: paths, and the roads that join all towns. */
public final class PathBoundaryTest {
    private static final int OPEN = TourBounds.OPEN;
    private static final int REQUIRED = TourBounds.REQUIRED;
    private static final int CLOSED = TourBounds.CLOSED;

    public static void main(String[] args) throws IllegalAccessException {
        Checks.runAll(PathBoundaryTest.class);
    }

    /** Every road is closed but those between neighbours in the row. */
    private static TourBounds row(int... towns) {
        TourBounds x = Checks.allMarked(towns.length, CLOSED);
        for (int k = 1; k < towns.length; k++) {
            x.mark(towns[k - 1], towns[k], OPEN);
        }
        return x;
    }

    /** Every road is closed but those of one town. */
    private static TourBounds star(int n, int middle) {
        TourBounds x = Checks.allMarked(n, CLOSED);
        for (int town = 0; town < n; town++) {
            x.mark(middle, town, OPEN);
        }
        return x;
    }

    /** Every road between a town in the group and one outside is closed. */
    private static TourBounds split(int n, int group) {
        TourBounds x = new TourBounds(n);
        for (int b = 1; b < n; b++) {
            for (int a = 0; a < b; a++) {
                if ((group >> a & 1) != (group >> b & 1)) {
                    x.mark(a, b, CLOSED);
                }
            }
        }
        return x;
    }

    /** A row of all n towns that begins with a and ends with b. */
    private static int[] rowFrom(int n, int a, int b) {
        int[] towns = new int[n];
        towns[0] = a;
        towns[n - 1] = b;
        int at = 1;
        for (int town = 0; town < n; town++) {
            if (town != a && town != b) {
                towns[at] = town;
                at++;
            }
        }
        return towns;
    }

    private static void dueEveryPath(String name, TourBounds x, int want) {
        int n = x.towns();
        for (int a = 0; a < n; a++) {
            for (int b = 0; b < n; b++) {
                if (a != b) {
                    Checks.due(name + ", n = " + n + ", path(" + a + ", " + b + ")", x.path(a, b), want);
                }
            }
        }
    }

    // Promise 15

    private static void promise15TownNotGoodIsMinus1() {
        for (int n = 2; n <= 7; n++) {
            int last = n - 1;
            for (int bad : Checks.badTowns(n)) {
                Checks.dueRefused("path(" + bad + ", 0)", n, x -> x.path(bad, 0), -1);
                Checks.dueRefused("path(0, " + bad + ")", n, x -> x.path(0, bad), -1);
                Checks.dueRefused("path(" + bad + ", last)", n, x -> x.path(bad, last), -1);
            }
        }
    }

    private static void promise15SameTownIsMinus2() {
        for (int n = 2; n <= 7; n++) {
            for (int t = 0; t < n; t++) {
                int town = t;
                Checks.dueRefused("path(" + t + ", " + t + ")", n, x -> x.path(town, town), -2);
            }
        }
    }

    private static void promise15NoPathIsMinus3() {
        for (int n = 2; n <= 7; n++) {
            dueEveryPath("all closed", Checks.allMarked(n, CLOSED), -3);
            dueEveryPath("stuck", Checks.stuck(n), -3);
            for (int group = 1; group < (1 << n) - 1; group++) {
                dueEveryPath("split in two", split(n, group), -3);
            }
        }
        for (int n = 4; n <= 7; n++) {
            for (int middle = 0; middle < n; middle++) {
                dueEveryPath("a star", star(n, middle), -3);
            }
        }
    }

    private static void promise15NoPathAtPrice0IsMinus3() {
        TourBounds x = Checks.stuck(5);
        x.line(0, 0);
        dueEveryPath("stuck, all at 0", x, -3);
    }

    private static void promise15OneRowIsLeft() {
        for (int n = 2; n <= 7; n++) {
            for (int a = 0; a < n; a++) {
                for (int b = 0; b < n; b++) {
                    if (a != b) {
                        dueOneRow(n, a, b);
                    }
                }
            }
        }
    }

    private static void dueOneRow(int n, int a, int b) {
        TourBounds x = row(rowFrom(n, a, b));
        for (int c = 0; c < n; c++) {
            for (int d = 0; d < n; d++) {
                if (c != d) {
                    boolean ends = c == a && d == b || c == b && d == a;
                    Checks.due("one row from " + a + " to " + b + ", path(" + c + ", " + d + "), n = " + n,
                            x.path(c, d), ends ? 10 * (n - 1) : -3);
                }
            }
        }
    }

    private static void promise15PathForNothingIs0() {
        for (int n = 2; n <= 7; n++) {
            dueEveryPath("all at 0", Checks.allAt(n, 0), 0);
        }
    }

    private static void promise15DearestPathIs40ForEachRoad() {
        for (int n = 2; n <= 7; n++) {
            dueEveryPath("all at 40", Checks.allAt(n, 40), 40 * (n - 1));
        }
    }

    private static void promise15TwoTownsPayTheirRoadOnce() {
        for (int price = 0; price <= 40; price++) {
            TourBounds x = new TourBounds(2);
            x.price(0, 1, price);
            Checks.due("path(0, 1) at " + price, x.path(0, 1), price);
            Checks.due("path(1, 0) at " + price, x.path(1, 0), price);
        }
        TourBounds y = Checks.allMarked(2, CLOSED);
        Checks.due("path(0, 1), closed", y.path(0, 1), -3);
        y.mark(0, 1, REQUIRED);
        Checks.due("path(0, 1), required", y.path(0, 1), 10);
    }

    private static void promise15APathGoesThroughEveryTown() {
        for (int n = 3; n <= 7; n++) {
            TourBounds x = Checks.allAt(n, 40);
            x.price(0, 1, 0);
            Checks.due("path(0, 1) with 0-1 at 0, n = " + n, x.path(0, 1), 40 * (n - 1));
            x.mark(0, 1, CLOSED);
            Checks.due("path(0, 1) with 0-1 closed, n = " + n, x.path(0, 1), 40 * (n - 1));
        }
    }

    private static void promise15BadTownComesBeforeSameTown() {
        for (int n = 2; n <= 7; n++) {
            for (int bad : Checks.badTowns(n)) {
                Checks.dueRefused("path(" + bad + " twice)", n, x -> x.path(bad, bad), -1);
            }
        }
    }

    private static void promise15BadTownAndSameTownComeBeforeNoPath() {
        for (int n = 2; n <= 7; n++) {
            TourBounds x = Checks.allMarked(n, CLOSED);
            Checks.due("path(n, 0), all closed", x.path(n, 0), -1);
            Checks.due("path(0, -1), all closed", x.path(0, -1), -1);
            Checks.due("path(n, n), all closed", x.path(n, n), -1);
            Checks.due("path(0, 0), all closed", x.path(0, 0), -2);
            Checks.due("path(last, last), all closed", x.path(n - 1, n - 1), -2);
        }
    }

    private static void promise15ClosedRoadsAreNotUsed() {
        TourBounds x = new TourBounds(4);
        x.price(0, 2, 0);
        Checks.due("path(0, 1) by 0-2 for nothing", x.path(0, 1), 20);
        x.mark(0, 2, CLOSED);
        Checks.due("path(0, 1) with 0-2 closed", x.path(0, 1), 30);
        x.mark(0, 3, CLOSED);
        Checks.due("path(0, 1) with 0-3 closed too", x.path(0, 1), -3);
        Checks.due("path(2, 3) with 0 at the end of 0-1", x.path(2, 3), -3);
        Checks.due("path(0, 3) by 0-1, 1-2, 2-3", x.path(0, 3), 30);
    }

    private static void promise15RequiredRoadsPlayNoPart() {
        for (int n = 2; n <= 7; n++) {
            TourBounds x = Checks.allMarked(n, REQUIRED);
            TourBounds open = new TourBounds(n);
            x.sow(3, 8);
            open.sow(3, 8);
            for (int a = 0; a < n; a++) {
                for (int b = 0; b < n; b++) {
                    Checks.due("all required, n = " + n + ", path(" + a + ", " + b + ")",
                            x.path(a, b), open.path(a, b));
                }
            }
        }
        TourBounds dear = Checks.allAt(4, 1);
        dear.price(0, 1, 40);
        dear.mark(0, 1, REQUIRED);
        Checks.due("path(0, 1) past a dear required road", dear.path(0, 1), 3);
        Checks.due("path(0, 3) past a dear required road", dear.path(0, 3), 3);
    }

    private static void promise15NoTourIsNeeded() {
        TourBounds x = new TourBounds(4);
        x.mark(0, 1, REQUIRED);
        x.mark(0, 2, REQUIRED);
        x.mark(0, 3, REQUIRED);
        Checks.due("best()", x.best(), -1);
        dueEveryPath("three roads of 0 required", x, 30);
    }

    private static void promise15BothDirectionsCostTheSame() {
        for (int n = 2; n <= 7; n++) {
            TourBounds x = Checks.busy(n);
            for (int a = 0; a < n; a++) {
                for (int b = 0; b < a; b++) {
                    Checks.due("path(" + a + ", " + b + "), n = " + n, x.path(a, b), x.path(b, a));
                }
            }
        }
    }

    // Promise 16

    private static void promise16NoPathIsMinus3() {
        for (int n = 2; n <= 7; n++) {
            Checks.due("all closed, n = " + n, Checks.allMarked(n, CLOSED).bestPath(), -3);
            Checks.due("stuck, n = " + n, Checks.stuck(n).bestPath(), -3);
            for (int group = 1; group < (1 << n) - 1; group++) {
                Checks.due("split in two, n = " + n, split(n, group).bestPath(), -3);
            }
        }
        for (int n = 4; n <= 7; n++) {
            for (int middle = 0; middle < n; middle++) {
                Checks.due("a star, n = " + n, star(n, middle).bestPath(), -3);
            }
        }
    }

    private static void promise16NoPathAtPrice0IsMinus3() {
        TourBounds x = Checks.stuck(5);
        x.line(0, 0);
        Checks.due("stuck, all at 0", x.bestPath(), -3);
    }

    private static void promise16OneRowIsLeft() {
        for (int n = 2; n <= 7; n++) {
            for (int a = 0; a < n; a++) {
                for (int b = 0; b < a; b++) {
                    Checks.due("one row from " + a + " to " + b + ", n = " + n,
                            row(rowFrom(n, a, b)).bestPath(), 10 * (n - 1));
                }
            }
        }
    }

    private static void promise16OneRowIsCheapest() {
        for (int n = 2; n <= 7; n++) {
            for (int a = 0; a < n; a++) {
                for (int b = 0; b < a; b++) {
                    TourBounds x = Checks.allAt(n, 40);
                    int[] towns = rowFrom(n, a, b);
                    for (int k = 1; k < n; k++) {
                        x.price(towns[k - 1], towns[k], 39);
                    }
                    Checks.due("cheapest from " + a + " to " + b + ", n = " + n, x.bestPath(), 39 * (n - 1));
                }
            }
        }
    }

    private static void promise16PathForNothingIs0() {
        for (int n = 2; n <= 7; n++) {
            Checks.due("all at 0, n = " + n, Checks.allAt(n, 0).bestPath(), 0);
        }
    }

    private static void promise16DearestPathIs40ForEachRoad() {
        for (int n = 2; n <= 7; n++) {
            Checks.due("all at 40, n = " + n, Checks.allAt(n, 40).bestPath(), 40 * (n - 1));
        }
    }

    private static void promise16RequiredRoadsPlayNoPart() {
        for (int n = 2; n <= 7; n++) {
            TourBounds x = Checks.allMarked(n, REQUIRED);
            TourBounds open = new TourBounds(n);
            x.sow(3, 8);
            open.sow(3, 8);
            Checks.due("all required, n = " + n, x.bestPath(), open.bestPath());
        }
        TourBounds dear = Checks.allAt(4, 1);
        dear.price(0, 1, 40);
        dear.mark(0, 1, REQUIRED);
        Checks.due("past a dear required road", dear.bestPath(), 3);
    }

    private static void promise16ClosedRoadsAreNotUsed() {
        TourBounds x = Checks.allAt(3, 20);
        x.price(0, 1, 0);
        Checks.due("0-1 open", x.bestPath(), 20);
        x.mark(0, 1, CLOSED);
        Checks.due("0-1 closed", x.bestPath(), 40);
        x.mark(1, 2, CLOSED);
        Checks.due("0-1 and 1-2 closed", x.bestPath(), -3);
    }

    // Promise 17

    private static void promise17NotAllJoinedIsMinus3() {
        for (int n = 2; n <= 7; n++) {
            Checks.due("all closed, n = " + n, Checks.allMarked(n, CLOSED).span(), -3);
            Checks.due("stuck, n = " + n, Checks.stuck(n).span(), -3);
            for (int group = 1; group < (1 << n) - 1; group++) {
                Checks.due("split in two by " + group + ", n = " + n, split(n, group).span(), -3);
            }
        }
    }

    private static void promise17NotAllJoinedAtPrice0IsMinus3() {
        TourBounds x = Checks.stuck(5);
        x.line(0, 0);
        Checks.due("stuck, all at 0", x.span(), -3);
    }

    private static void promise17OneRoadJoinsTwoGroups() {
        for (int n = 2; n <= 7; n++) {
            for (int b = 1; b < n; b++) {
                for (int a = 0; a < b; a++) {
                    TourBounds x = split(n, (1 << b) - 1);
                    x.mark(a, b, OPEN);
                    x.price(a, b, 40);
                    Checks.due(a + "-" + b + " joins two groups, n = " + n, x.span(), 10 * (n - 2) + 40);
                }
            }
        }
    }

    private static void promise17JustEnoughRoads() {
        for (int n = 2; n <= 7; n++) {
            for (int town = 0; town < n; town++) {
                Checks.due("a star around " + town + ", n = " + n, star(n, town).span(), 10 * (n - 1));
            }
            for (int a = 0; a < n; a++) {
                for (int b = 0; b < a; b++) {
                    TourBounds x = row(rowFrom(n, a, b));
                    Checks.due("a row from " + a + " to " + b + ", n = " + n, x.span(), 10 * (n - 1));
                    x.mark(rowFrom(n, a, b)[n - 2], b, CLOSED);
                    Checks.due("a row with a gap, n = " + n, x.span(), -3);
                }
            }
        }
    }

    private static void promise17AsManyRoadsButARing() {
        for (int n = 4; n <= 7; n++) {
            TourBounds x = Checks.allMarked(n, CLOSED);
            for (int k = 0; k < n - 1; k++) {
                x.mark(k, (k + 1) % (n - 1), OPEN);
            }
            Checks.due("a ring that leaves out the last of " + n, x.span(), -3);
            x.mark(1, n - 1, OPEN);
            Checks.due("a ring and a road to the last of " + n, x.span(), 10 * (n - 1));
        }
    }

    private static void promise17RoadsForNothingAre0() {
        for (int n = 2; n <= 7; n++) {
            Checks.due("all at 0, n = " + n, Checks.allAt(n, 0).span(), 0);
        }
    }

    private static void promise17DearestIs40ForEachRoad() {
        for (int n = 2; n <= 7; n++) {
            Checks.due("all at 40, n = " + n, Checks.allAt(n, 40).span(), 40 * (n - 1));
        }
    }

    private static void promise17LessThanAnyPath() {
        for (int n = 4; n <= 7; n++) {
            for (int middle = 0; middle < n; middle++) {
                TourBounds x = Checks.allAt(n, 40);
                for (int town = 0; town < n; town++) {
                    x.price(middle, town, 1);
                }
                Checks.due("a cheap star, n = " + n, x.span(), n - 1);
                Checks.due("its best path, n = " + n, x.bestPath(), 2 + 40 * (n - 3));
            }
        }
    }

    private static void promise17RequiredRoadsPlayNoPart() {
        for (int n = 2; n <= 7; n++) {
            TourBounds x = Checks.allMarked(n, REQUIRED);
            TourBounds open = new TourBounds(n);
            x.sow(3, 8);
            open.sow(3, 8);
            Checks.due("all required, n = " + n, x.span(), open.span());
        }
        TourBounds dear = Checks.allAt(4, 1);
        dear.price(0, 1, 40);
        dear.mark(0, 1, REQUIRED);
        Checks.due("past a dear required road", dear.span(), 3);
    }

    private static void promise17ClosedRoadsAreNotUsed() {
        TourBounds x = Checks.allAt(3, 20);
        x.price(0, 1, 0);
        Checks.due("0-1 open", x.span(), 20);
        x.mark(0, 1, CLOSED);
        Checks.due("0-1 closed", x.span(), 40);
        x.mark(1, 2, CLOSED);
        Checks.due("0-1 and 1-2 closed", x.span(), -3);
    }

    private static void promise17TwoTowns() {
        for (int price = 0; price <= 40; price++) {
            TourBounds x = new TourBounds(2);
            x.price(0, 1, price);
            Checks.due("two towns at " + price, x.span(), price);
        }
        Checks.due("two towns, closed", Checks.allMarked(2, CLOSED).span(), -3);
    }
}
