/** The boundary cases of '==== 3.': one method for each sentence that names some. */
public final class AskBoundsTest extends Checks {
    /** Eight PLACES in a line; STRETCH i leads from PLACE i to i + 1. */
    private static final String LINE = "r;ra1b2;ra2b3;ra3b4;ra4b5;ra5b6;ra6b7";
    private static final int ALL = 1000000000;

    public static void main(String[] args) {
        leastBounds();
        leastZeroToSix();
        leastByWhatIsOwed();
        leastRowOfSeveral();
        leastByWhoCanCome();
        leastOfAllRows();
        leastOnceMore();
        wayToItself();
        wayOfLeastWear();
        wayOfSeveral();
        wayThereIsNone();
        worthOfSeveral();
        worthNowhere();
        buysBelowEight();
        buysComingToNone();
        gameCosts();
        gameGrounds();
        restsBounds();
        restsBySeveral();
        roadThereIsNone();
        sharesBounds();
        sharesOfNothing();
        seenTenAtMost();
        seenSets();
        feignedBounds();
        feignedByAll();
        honestAndNothingFits();
        watchOfSeveral();
        whoseBounds();
        failsFirst();
        failsWithin200();
        failsBehindTheLastSeason();
        oddsBounds();
        oddsFrom60();
        oddsCut();
        oddsFromZero();
        odds99AtMost();
        tollBounds();
        tollOfSeveral();
        worstOfSeveral();
        endsWithJustOne();
        cutFromZero();
        owedByAll();
        neighboursOfNone();
        counts();
        askedOfNine();
        tellAndExit();
    }

    private static void leastBounds() {
        about("LEAST for a STRETCH and n (0 .. 99); promise 20: NONE: no such STRETCH, out of bounds");
        OwedDays x = parish("rw99;h", "y:99");
        for (int what = 0; what < 2; what++) {
            is("n 0", x.least(0, 0, what), what == 0 ? 1 : 0);
            is("n 98", x.least(0, 98, what), what == 0 ? 1 : 0);
            is("n 99", x.least(0, 99, what), 0);
            is("n 100", x.least(0, 100, what), NONE);
            is("n -1", x.least(0, -1, what), NONE);
            is("the greatest n", x.least(0, Integer.MAX_VALUE, what), NONE);
            is("the least n", x.least(0, Integer.MIN_VALUE, what), NONE);
            is("stretch -1", x.least(-1, 50, what), NONE);
            is("stretch 1", x.least(1, 50, what), NONE);
            is("no parish", new OwedDays().least(0, 50, what), NONE);
        }
        is("what -1", x.least(0, 50, -1), NONE);
        is("what 2", x.least(0, 50, 2), NONE);
        is("what 2 of none", x.least(0, 99, 2), NONE);
    }

    private static void leastZeroToSix() {
        about("the fewest days (0 .. 6) .. behind which its WEAR is n or less; promise 20: the row (1; 0 of none), NONE: not within six");
        for (int wear = 0; wear <= 75; wear++) {
            OwedDays x = parish("sd9;rw" + wear + ";h", "y:10");
            for (int n = 0; n <= 20; n += 5) {
                int days = wear <= n ? 0 : (wear - n + 9) / 10;
                is("from " + wear + " to " + n, x.least(0, n, 0), days > 6 ? NONE : days);
                is("row from " + wear + " to " + n, x.least(0, n, 1), days > 6 ? NONE : 0);
            }
        }
        OwedDays x = parish("sd9;rw60;h;hc1q4", "y:q=4?10");
        is("six by house 1", x.least(0, 0, 1), 111111);
        is("five by house 1", x.least(0, 10, 1), 11111);
        is("one by house 1", x.least(0, 59, 1), 1);
        is("none", x.least(0, 60, 1), 0);
        x = parish("rw60;h", "y:0");
        is("days that do nothing", x.least(0, 59, 0), NONE);
        is("no day needed", x.least(0, 60, 0), 0);
    }

    private static void leastByWhatIsOwed() {
        about("by HOUSES (none more than it owes)");
        for (int days = 1; days <= 9; days++) {
            OwedDays x = parish("sd" + days + ";rw99;h", "y:10");
            int most = Math.min(6, days);
            is("all that it owes of " + days, x.least(0, 99 - 10 * most, 0), most);
            is("one more", x.least(0, 98 - 10 * most, 0), NONE);
        }
        OwedDays x = parish("sd2;rw99;h;h;h", "y:10");
        is("two each", x.least(0, 39, 1), 1122);
        is("six days", x.least(0, 39, 0), 6);
        is("no seventh", x.least(0, 38, 0), NONE);
        x.pay(0, 2);
        is("who paid owes none", x.least(0, 59, 1), 1122);
        is("four days at most", x.least(0, 58, 0), NONE);
        x.work(1, 0, 3);
        is("who feigned owes one", x.least(0, 69, 1), 122);
        x.pay(1, 1);
        x.pay(2, 2);
        is("none is owed", x.least(0, 98, 0), NONE);
        is("none is needed", x.least(0, 99, 0), 0);
    }

    private static void leastRowOfSeveral() {
        about("the row of HOUSES (digits, the first the highest; of several the least)");
        OwedDays x = parish("sd1;rw30;h;h;h;h;h;h", "y:10");
        is("0, 1, 2", x.least(0, 0, 1), 12);
        is("0, 1", x.least(0, 10, 1), 1);
        is("0", x.least(0, 20, 1), 0);
        x = parish("sd1;rw60;h;h;h;h;h;h", "y:10");
        is("all six", x.least(0, 0, 1), 12345);
        is("six days", x.least(0, 0, 0), 6);
        x = parish("sd1;rw60;hq1;hq2;hq3;hq4;hq5;hq6", "y:q*5");
        is("two to 5", x.least(0, 5, 0), 2);
        is("4, 5", x.least(0, 5, 1), 45);
        is("three to 0", x.least(0, 0, 0), 3);
        is("fewest, then least: 0, 4, 5", x.least(0, 0, 1), 45);
        is("one: 5", x.least(0, 30, 1), 5);
        is("one: 1", x.least(0, 50, 1), 1);
        // By a law with w the order matters: 1 takes half, 0 takes 9.
        x = parish("sd1;rw40;hq1;hq2", "y:q=1?9;y:w/2");
        is("9 first, then half: 16", x.least(0, 16, 1), 1);
        is("half first, then 9: 11", x.least(0, 11, 1), 10);
        is("no way to 10", x.least(0, 10, 1), NONE);
        x = parish("sd9;rw40;hq9;hq1", "y:q=9?0;y:40");
        is("who does nothing is in no shortest row", x.least(0, 0, 1), 1);
    }

    private static void leastByWhoCanCome() {
        about("LEAST by HOUSES that can come there, DOES as it is now");
        OwedDays x = parish("sd9;rw20;hc5q9;h", "y:10");
        is("not by house 0", x.least(0, 0, 1), 11);
        x = parish("sd9;rw20;hc5q9", "y:10");
        is("nobody comes", x.least(0, 19, 0), NONE);
        is("nobody needs to", x.least(0, 20, 0), 0);
        x = parish("sf0;rw60u0e0;hq5");
        is("six of ten", x.least(0, 0, 0), 6);
        x.seasons(3);
        is("in winter six of five", x.least(0, 30, 0), 6);
        is("no more", x.least(0, 29, 0), NONE);
        x.seasons(1);
        is("in spring again", x.least(0, 0, 0), 6);
    }

    private static void leastOfAllRows() {
        about("LEAST: the fewest days, of several rows the least (all rows tried)");
        String[] laws = {"y:q", "y:q*q", "y:w/q", "y:q=w/q?9;y:w/9", "y:w>60?q;y:w>30?20-q*2;y:3", "y:99-w", "y:q=9?1;y:w=98?60;y:w/3"};
        String[] carts = {"hq9;hq1;hq8;hq2;hq7;hq3", "hq1;hq2;hq3;hq4;hq5;hq6", "hq5;hq5;hq4;hq4;hq9;hq9"};
        for (String law : laws) {
            for (String houses : carts) {
                for (int days : new int[] {1, 2, 9}) {
                    OwedDays x = parish("sd" + days + ";rw99;" + houses, law);
                    for (int n = 0; n < 99; n += 7) {
                        leastIsOfAllRows(x, law, houses, days, n);
                    }
                }
            }
        }
    }

    private static void leastOnceMore() {
        about("LEAST .. from as it is now (nothing is left of what was asked before)");
        OwedDays x = parish("sf0;rw97u1e0;ra4b5w97;h;h", "y:w=98?98");
        x.pay(0, 6);
        is("at 97 nothing helps", x.least(0, 0, 0), NONE);
        is("far away nothing helps", x.least(1, 0, 0), NONE);
        x.seasons(1);
        is("at 98 one day does", x.least(0, 0, 0), 1);
        is("of house 1", x.least(0, 0, 1), 1);
        is("far away nothing helps", x.least(1, 0, 0), NONE);
        x.undo();
        is("at 97 nothing helps", x.least(0, 0, 0), NONE);
        x.undo();
        x.seasons(1);
        is("of house 0", x.least(0, 0, 1), 0);
        x.seasons(1);
        is("at 99 nothing helps", x.least(0, 0, 0), NONE);
    }

    private static void leastIsOfAllRows(OwedDays x, String law, String houses, int days, int n) {
        int[] carts = new int[6];
        for (int h = 0; h < 6; h++) {
            carts[h] = houses.charAt(4 * h + 2) - '0';
        }
        int due = NONE;
        int length = -1;
        while (due == NONE && length < 6) {
            length++;
            due = firstRow(law, carts, new int[6], days, length, 99, n, 0);
        }
        String what = law + " by " + houses + " with " + days + " to " + n;
        is("days of " + what, x.least(0, n, 0), due == NONE ? NONE : length);
        is("the row of " + what, x.least(0, n, 1), due);
    }

    private static int firstRow(String law, int[] carts, int[] worked, int owed, int length, int wear, int n, int row) {
        if (wear <= n) {
            return length == 0 ? row : NONE;
        }
        for (int h = 0; h < 6 && length > 0; h++) {
            if (worked[h] < owed) {
                worked[h]++;
                int left = Math.max(0, wear - byLaw(law, carts[h], wear));
                int found = firstRow(law, carts, worked, owed, length - 1, left, n, 10 * row + h);
                worked[h]--;
                if (found != NONE) {
                    return found;
                }
            }
        }
        return NONE;
    }

    /** The laws of leastOfAllRows told as Java. */
    private static int byLaw(String law, int q, int w) {
        switch (law) {
            case "y:q":
                return q;
            case "y:q*q":
                return q * q;
            case "y:w/q":
                return w / q;
            case "y:q=w/q?9;y:w/9":
                return q == w / q ? 9 : w / 9;
            case "y:w>60?q;y:w>30?20-q*2;y:3":
                return w > 60 ? q : w > 30 ? Math.max(0, 20 - q * 2) : 3;
            case "y:99-w":
                return 99 - w;
            case "y:q=9?1;y:w=98?60;y:w/3":
                return q == 9 ? 1 : w == 98 ? 60 : w / 3;
            default:
                throw new IllegalStateException(law);
        }
    }

    private static void wayToItself() {
        about("WAY from one PLACE to another (0 to itself)");
        OwedDays x = parish("rw99;ra6b7w0;h");
        for (int place = 0; place < 8; place++) {
            is("wear from " + place + " to itself", x.way(place, place, 0), 0);
            is("stretches from " + place + " to itself", x.way(place, place, 1), 0);
        }
        is("no place 8", x.way(8, 8, 0), NONE);
        is("no place -1", x.way(-1, -1, 0), NONE);
    }

    private static void wayOfLeastWear() {
        about("the least WEAR of all STRETCHES on it together; the STRETCHES (bits)");
        OwedDays x = parish(LINE.replace("r;ra1", "rw1;ra1") + ";h");
        for (int from = 0; from < 8; from++) {
            for (int to = 0; to < 8; to++) {
                int low = Math.min(from, to);
                int high = Math.max(from, to);
                int wear = 20 * (high - low) - (low == 0 && high > 0 ? 19 : 0);
                is("wear from " + from + " to " + to, x.way(from, to, 0), wear);
                is("stretches from " + from + " to " + to, x.way(from, to, 1), (1 << high) - (1 << low));
            }
        }
        x = parish("ra0b1w99;ra1b2w99;ra2b3w99;ra3b4w99;ra4b5w99;ra5b6w99;ra6b7w99;ra0b7w98;ra0b7w97;h");
        is("beside the long way", x.way(0, 7, 0), 97);
        is("the ninth", x.way(0, 7, 1), 256);
        is("round about", x.way(1, 7, 1), 257);
        is("the half of it", x.way(0, 4, 0), 394);
        is("back by the ninth", x.way(0, 4, 1), 256 + 64 + 32 + 16);
        x = parish("rw50;ra0b2w24;ra2b1w25;h");
        is("49 by two", x.way(0, 1, 1), 6);
        x = parish("rw49;ra0b2w24;ra2b1w26;h");
        is("49 by one", x.way(0, 1, 1), 1);
        x.seasons(1);
        is("now 52 by one", x.way(0, 1, 0), 52);
    }

    private static void wayOfSeveral() {
        about("WAY .. of several the least (bits)");
        is("one of 49, two of 24 and 25", parish("rw49;ra0b2w24;ra2b1w25;h").way(0, 1, 1), 1);
        is("two of 24 and 25, one of 49", parish("ra0b2w24;ra2b1w25;rw49;h").way(0, 1, 1), 3);
        is("three alike", parish("rw9;rw9;rw9;h").way(1, 0, 1), 1);
        is("not those with more wear", parish("rw9;rw8;rw8;h").way(1, 0, 1), 2);
        is("no wear at all, by most stretches", parish("ra0b2w0;ra2b3w0;ra3b1w0;ra0b1w0;h").way(0, 1, 1), 7);
        is("no stretch that leads nowhere", parish("ra5b6w0;ra0b5w0;rw0;h").way(0, 1, 1), 4);
        is("a loop without wear is not on it", parish("ra0b2w0;ra0b2w0;rw5;h").way(0, 1, 1), 4);
    }

    private static void wayThereIsNone() {
        about("promise 21: NONE: there is none, no such PLACES (0 .. 7), no PARISH, no such what");
        OwedDays x = parish("r;ra2b3;h");
        int[][] none = {{0, 2}, {2, 0}, {1, 3}, {0, 7}, {7, 0}, {6, 7}, {-1, 0}, {0, -1}, {8, 0}, {0, 8}, {Integer.MIN_VALUE, 0},
            {0, Integer.MAX_VALUE}};
        for (int[] n : none) {
            is("wear from " + n[0] + " to " + n[1], x.way(n[0], n[1], 0), NONE);
            is("stretches from " + n[0] + " to " + n[1], x.way(n[0], n[1], 1), NONE);
        }
        is("what 2", x.way(0, 1, 2), NONE);
        is("what -1", x.way(0, 1, -1), NONE);
        is("what 2 to itself", x.way(0, 0, 2), NONE);
        for (int what = 0; what < 2; what++) {
            is("no parish", new OwedDays().way(0, 0, what), NONE);
            is("no parish", new OwedDays().way(0, 1, what), NONE);
        }
    }

    private static void worthOfSeveral() {
        about("MOST WORTH: the STRETCH at which it DOES most (of several the lowest)");
        OwedDays x = parish(LINE + ";h;hc7;hc3;hc1");
        is("from 0", x.worth(0), 0);
        is("from 7", x.worth(1), 6);
        is("from 3: 2 and 3", x.worth(2), 2);
        is("from 1: 0 and 1", x.worth(3), 0);
        is("nothing anywhere", parish(LINE + ";hc7", "y:0").worth(0), 0);
        is("all alike", parish(LINE + ";hc7", "y:99").worth(0), 0);
        is("held at 99", parish("rw98;rw99;rw97;h", "y:w+2").worth(0), 0);
        is("by law", parish("rw98;rw99;rw97;h", "y:w").worth(0), 1);
        x = parish("rw3u0;rw5u0;rw4u0;h", "y:w");
        x.seasons(3);
        is("in winter 1, 2, 2", x.worth(0), 1);
    }

    private static void worthNowhere() {
        about("promise 22: NONE: it comes nowhere, no such HOUSE");
        OwedDays x = parish("ra1b2;ra2b3;h;hc3;hc4", "y:0");
        is("at 0, where none is", x.worth(0), NONE);
        is("at 3", x.worth(1), 0);
        is("at 4, where none is", x.worth(2), NONE);
        is("no house 3", x.worth(3), NONE);
        is("no house -1", x.worth(-1), NONE);
        is("the greatest", x.worth(Integer.MAX_VALUE), NONE);
        is("no parish", new OwedDays().worth(0), NONE);
        is("of those it comes to", parish("ra4b5w99;rw1;h", "y:w").worth(0), 1);
    }

    private static void buysBelowEight() {
        about("BUYS: HOUSES (bits) that DO less by KIND 0 than a BOUGHT day would, at each STRETCH to which they come");
        for (int worth = 0; worth <= 20; worth++) {
            OwedDays x = parish("r;h", "y:" + worth);
            is("one that does " + worth, x.buys(), worth < 8 ? 1 : 0);
            x.seasons(3);
            is("in winter " + worth / 2 + " and 4", x.buys(), worth / 2 < 4 ? 1 : 0);
        }
        is("7 and 8", parish("rw7;rw8;h", "y:w").buys(), 0);
        is("8 and 7", parish("rw8;rw7;h", "y:w").buys(), 0);
        is("7 and 7", parish("rw7;rw7;h", "y:w").buys(), 1);
        is("not by where it can't come", parish("rw7;ra4b5w99;h", "y:w").buys(), 1);
        is("all six", parish("r;h;h;h;h;h;h").buys(), 63);
        is("none of six", parish("r;hq4;hq4;hq4;hq4;hq4;hq9").buys(), 0);
        is("each by itself", parish("r;hq4;hq3;hq9;hq1;hq4;h").buys(), 2 + 8 + 32);
    }

    private static void buysComingToNone() {
        about("BUYS (also those that come to none); promise 23: NONE: no PARISH");
        is("house 1", parish("r;hq9;hc7q9").buys(), 2);
        is("both", parish("ra3b4;hq9;hc7q9").buys(), 3);
        is("no parish", new OwedDays().buys(), NONE);
    }

    private static void gameCosts() {
        about("GAME: half (cut) of what both DO, less 4 for KIND 0, 2 for 1");
        int[] kinds = {0, 1, 3};
        int[] costs = {4, 2, 0, 0};
        int[][] worths = {{0, 0}, {1, 0}, {0, 1}, {3, 4}, {7, 7}, {99, 99}, {99, 98}};
        for (int[] w : worths) {
            OwedDays x = parish("rw5;hq1;hq2", "y:q=1?" + w[0] + ";y:" + w[1]);
            for (int a : kinds) {
                for (int b : kinds) {
                    int one = a == 0 ? w[0] : a == 1 ? w[0] / 2 : 0;
                    int other = b == 0 ? w[1] : b == 1 ? w[1] / 2 : 0;
                    String of = w[0] + " and " + w[1] + " by " + a + " and " + b;
                    is("the one of " + of, x.game(0, 1, 0, a, b, 0), (one + other) / 2 - costs[a]);
                    is("the other of " + of, x.game(0, 1, 0, a, b, 1), (one + other) / 2 - costs[b]);
                    is("turned round, " + of, x.game(1, 0, 0, b, a, 1), (one + other) / 2 - costs[a]);
                }
            }
        }
        OwedDays x = parish("sd1;rw40;h;h", "y:w/2");
        is("both by the wear as it is now", x.game(0, 1, 0, 0, 0, 0), 16);
        x.work(0, 0, 3);
        is("also who owes none", x.game(0, 1, 0, 0, 0, 0), 16);
    }

    private static void gameGrounds() {
        about("promise 24: HIDDEN: no such ones, alike, one can't come there, no such KINDS");
        OwedDays x = parish("r;ra4b5;h;h;hc4");
        is("so it is", x.game(0, 1, 0, 0, 0, 0), 2);
        int[][] hidden = {{-1, 1, 0, 0, 0, 0}, {3, 1, 0, 0, 0, 0}, {0, -1, 0, 0, 0, 0}, {0, 3, 0, 0, 0, 0}, {0, 1, -1, 0, 0, 0},
            {0, 1, 2, 0, 0, 0}, {0, 0, 0, 0, 0, 0}, {1, 1, 0, 0, 0, 0}, {0, 2, 0, 0, 0, 0}, {2, 0, 0, 0, 0, 0}, {0, 2, 1, 0, 0, 0},
            {2, 1, 1, 0, 0, 0}, {0, 1, 1, 0, 0, 0}, {0, 1, 0, 2, 0, 0}, {0, 1, 0, 0, 2, 0}, {0, 1, 0, 4, 0, 0}, {0, 1, 0, 0, 4, 0},
            {0, 1, 0, -1, 0, 0}, {0, 1, 0, 0, -1, 0}, {0, 1, 0, 0, 0, 2}, {0, 1, 0, 0, 0, -1},
            {Integer.MIN_VALUE, 1, 0, 0, 0, 0}, {0, Integer.MAX_VALUE, 0, 0, 0, 0}, {0, 1, 0, Integer.MAX_VALUE, Integer.MIN_VALUE, 0}};
        for (int[] g : hidden) {
            is("game" + java.util.Arrays.toString(g), x.game(g[0], g[1], g[2], g[3], g[4], g[5]), HIDDEN);
        }
        is("no parish", new OwedDays().game(0, 1, 0, 0, 0, 0), HIDDEN);
        is("one house", parish("r;h").game(0, 1, 0, 0, 0, 0), HIDDEN);
    }

    private static void restsBounds() {
        about("promise 25: RESTS: how many (i NONE), the i-th. NONE: no such one, as for GAME");
        OwedDays x = parish("r;ra4b5;hq2;hq2;hc4");
        int many = x.rests(0, 1, 0, NONE);
        is("some", many > 0, true);
        is("the last", x.rests(0, 1, 0, many - 1) >= 0, true);
        is("one more", x.rests(0, 1, 0, many), NONE);
        is("i -2", x.rests(0, 1, 0, -2), NONE);
        is("the greatest i", x.rests(0, 1, 0, Integer.MAX_VALUE), NONE);
        is("the least i", x.rests(0, 1, 0, Integer.MIN_VALUE), NONE);
        int[][] none = {{-1, 1, 0}, {3, 1, 0}, {0, -1, 0}, {0, 3, 0}, {0, 1, -1}, {0, 1, 2}, {0, 0, 0}, {0, 2, 0}, {2, 0, 0}, {0, 1, 1}};
        for (int[] r : none) {
            is("rests" + java.util.Arrays.toString(r), x.rests(r[0], r[1], r[2], NONE), NONE);
            is("the first of rests" + java.util.Arrays.toString(r), x.rests(r[0], r[1], r[2], 0), NONE);
        }
        is("no parish", new OwedDays().rests(0, 1, 0, NONE), NONE);
    }

    private static void restsAre(int one, int other, int... due) {
        OwedDays x = parish("r;hq1;hq2", "y:q=1?" + one + ";y:" + other);
        String of = one + " and " + other;
        is("how many of " + of, x.rests(0, 1, 0, NONE), due.length);
        for (int i = 0; i < due.length; i++) {
            is("rests(" + i + ") of " + of, x.rests(0, 1, 0, i), due[i]);
        }
        is("no more of " + of, x.rests(0, 1, 0, due.length), NONE);
    }

    private static void restsBySeveral() {
        about("RESTS: 10 times x and y by which neither has more by another KIND of its own .. (rising)");
        restsAre(0, 0, 33);
        restsAre(99, 99, 0);
        restsAre(0, 99, 30);
        restsAre(99, 0, 3);
        // A day of 8 is worth 4, which it costs, a boy's of 4 is worth 2, which it costs: all is alike.
        restsAre(8, 8, 0, 1, 3, 10, 11, 13, 30, 31, 33);
        restsAre(8, 0, 3, 13, 33);
        restsAre(0, 8, 30, 31, 33);
        // 9 alone is cut to 4, which it costs, and a boy's 4 to 2.
        restsAre(9, 0, 3, 13, 33);
        // Beside a 7 or a boy's 3 all kinds have alike (3 or 1), beside a feigned one a day has less than 0.
        restsAre(7, 7, 0, 1, 10, 11, 33);
        // Beside a 9 its own has more (5, else 4), beside a boy's 4 and a feigned one all is alike.
        restsAre(9, 9, 0, 11, 13, 31, 33);
        // Beside a boy's 5 its own and a boy's have 3, a feigned one 2; else its own has most.
        restsAre(10, 10, 0, 11);
    }

    private static void roadThereIsNone() {
        about("ROAD of a HOUSE: the STRETCHES (bits) of the WAY from its PLACE to 0 (there is none: 0)");
        OwedDays x = parish(LINE + ";h;hc1;hc7");
        is("from 0", x.road(0), 0);
        is("from 1", x.road(1), 1);
        is("from 7", x.road(2), 127);
        x = parish("r;ra4b5;hc4;hc6");
        is("no way from 4", x.road(0), 0);
        is("no way from 6", x.road(1), 0);
        about("promise 26: NONE: no such HOUSE");
        is("no house 2", x.road(2), NONE);
        is("no house -1", x.road(-1), NONE);
        is("the greatest", x.road(Integer.MAX_VALUE), NONE);
        is("no parish", new OwedDays().road(0), NONE);
        about("ROAD: of several the least");
        is("alike", parish("rw40;ra0b2w20;ra2b1w20;hc1").road(0), 1);
        is("alike, told otherwise", parish("ra0b2w20;ra2b1w20;rw40;hc1").road(0), 3);
    }

    private static void sharesBounds() {
        about("SHARES of c (0 .. 999) .. cut; promise 27: NONE: no such one, out of bounds");
        OwedDays x = parish("ru2;ra1b2u5;hc1;hc2;h");
        is("c 0", x.shares(1, 0), 0);
        is("c 1", x.shares(1, 1), 0);
        is("c 2", x.shares(1, 2), 1);
        is("c 999", x.shares(1, 999), 777);
        is("c 999", x.shares(0, 999), 222);
        is("who lives at 0", x.shares(2, 999), 0);
        is("c 1000", x.shares(1, 1000), NONE);
        is("c -1", x.shares(1, -1), NONE);
        is("the greatest c", x.shares(1, Integer.MAX_VALUE), NONE);
        is("the least c", x.shares(1, Integer.MIN_VALUE), NONE);
        is("no house 3", x.shares(3, 5), NONE);
        is("no house -1", x.shares(-1, 5), NONE);
        is("no parish", new OwedDays().shares(0, 5), NONE);
        is("all alone", parish("ru9;hc1").shares(0, 999), 999);
        is("all uses", parish(LINE.replace(";", "u9;") + "u9;hc7;hc7;hc7;hc7;hc7;hc7").shares(5, 999), 166);
    }

    private static void sharesOfNothing() {
        about("SHARES .. (nothing: 0)");
        is("no use", parish("ru0;hc1;hc1").shares(1, 999), 0);
        is("all live at 0", parish("ru9;h;h").shares(1, 999), 0);
        is("no way", parish("ru9;hc5").shares(0, 999), 0);
        is("no such c all the same", parish("ru0;hc1").shares(0, 1000), NONE);
        is("use on its road alone", parish("ru0;ra1b2u9;hc1;hc2").shares(0, 999), 0);
        is("all of it", parish("ru0;ra1b2u9;hc1;hc2").shares(1, 999), 999);
    }

    private static void seenTenAtMost() {
        about("SEEN (10 at most); promise 28: NONE: there are ten");
        OwedDays x = parish("r;h;h");
        for (int i = 1; i <= 10; i++) {
            is("how many", x.seen(3, true), i);
            is("how many", x.count(11), i);
        }
        is("an eleventh", x.seen(3, true), NONE);
        is("another eleventh", x.seen(1, false), NONE);
        is("still ten", x.count(11), 10);
        is("as before: one of two", x.feigned(1, NONE), 2);
        x.seasons(1);
        x.undo();
        is("not undone", x.count(11), 10);
        x.image();
        x.back();
        is("not brought back", x.count(11), 10);
        tell(x, "r;h;h");
        x.text(0);
        is("gone with the parish", x.count(11), 0);
        is("room again", x.seen(1, false), 1);
        is("by that alone", x.feigned(1, 0), 1);
        is("by that alone", x.feigned(1, NONE), 1);
    }

    private static void seenSets() {
        about("promise 28: NONE: no PARISH, no such set (bits; at least one HOUSE)");
        is("no parish", new OwedDays().seen(1, true), NONE);
        is("no parish", new OwedDays().seen(0, false), NONE);
        for (int houses = 1; houses <= 6; houses++) {
            OwedDays x = parish("r;" + "h;".repeat(houses) + "s");
            is("none of " + houses, x.seen(0, true), NONE);
            is("one too many of " + houses, x.seen(1 << houses, true), NONE);
            is("one that there is and one too many of " + houses, x.seen(1 | 1 << houses, false), NONE);
            is("below 0", x.seen(-1, true), NONE);
            is("the least", x.seen(Integer.MIN_VALUE, true), NONE);
            is("the least with a house", x.seen(Integer.MIN_VALUE | 1, true), NONE);
            is("the greatest", x.seen(Integer.MAX_VALUE, true), NONE);
            is("no sighting yet", x.count(11), 0);
            is("the first of " + houses, x.seen(1, true), 1);
            is("the last of " + houses, x.seen(1 << houses - 1, true), 2);
            is("all of " + houses, x.seen((1 << houses) - 1, true), 3);
        }
    }

    private static void feignedBounds() {
        about("FEIGNED by k (0 .. 3) HOUSES; promise 29: NONE: no such one, no PARISH, out of bounds");
        int[][] choose = {{1, 1, 0, 0}, {1, 2, 1, 0}, {1, 3, 3, 1}, {1, 4, 6, 4}, {1, 5, 10, 10}, {1, 6, 15, 20}};
        for (int houses = 1; houses <= 6; houses++) {
            OwedDays x = parish("r;" + "h;".repeat(houses) + "s");
            for (int k = 0; k <= 3; k++) {
                int many = choose[houses - 1][k];
                String of = k + " of " + houses;
                is("how many " + of, x.feigned(k, NONE), many);
                is("the first " + of, x.feigned(k, 0), many == 0 ? NONE : (1 << k) - 1);
                is("the last " + of, x.feigned(k, many - 1), many == 0 ? 0 : ((1 << k) - 1) << houses - k);
                is("one more " + of, x.feigned(k, many), NONE);
                for (int i = 1; i < many; i++) {
                    is("rising " + of, x.feigned(k, i) > x.feigned(k, i - 1), true);
                }
                is("i -2 " + of, x.feigned(k, -2), NONE);
                is("the greatest i " + of, x.feigned(k, Integer.MAX_VALUE), NONE);
                is("the least i " + of, x.feigned(k, Integer.MIN_VALUE), NONE);
            }
            for (int k : new int[] {-1, 4, 5, 6, Integer.MAX_VALUE, Integer.MIN_VALUE}) {
                is("k " + k, x.feigned(k, NONE), NONE);
                is("the first of k " + k, x.feigned(k, 0), NONE);
                is("honest of k " + k, x.honest(k), NONE);
                is("best of k " + k, x.best(k), NONE);
            }
        }
        for (int k = 0; k <= 3; k++) {
            is("no parish", new OwedDays().feigned(k, NONE), NONE);
            is("no parish", new OwedDays().feigned(k, 0), NONE);
        }
    }

    private static void feignedByAll() {
        about("all SEEN is so: it got better just if one of them did not feign");
        OwedDays x = parish("r;h;h;h");
        x.seen(3, true);
        is("0 or 1, not both: of one", x.feigned(1, NONE), 3);
        is("of two", x.feigned(2, NONE), 2);
        is("of three", x.feigned(3, NONE), 0);
        is("of none", x.feigned(0, NONE), 1);
        x.seen(4, false);
        is("2 did: of none", x.feigned(0, NONE), 0);
        is("of one", x.feigned(1, 0), 4);
        is("of two", x.feigned(2, 0), 5);
        is("of two", x.feigned(2, 1), 6);
        x.seen(2, true);
        is("1 did not: of two", x.feigned(2, NONE), 1);
        is("of two", x.feigned(2, 0), 5);
        x.seen(1, true);
        is("0 did not: of two", x.feigned(2, NONE), 0);
        is("of one", x.feigned(1, 0), 4);
        x.seen(4, true);
        for (int k = 0; k <= 3; k++) {
            is("against itself", x.feigned(k, NONE), 0);
        }
        x = parish("r;h;h;h;h;h;h");
        x.seen(63, true);
        is("not all of six", x.feigned(3, NONE), 20);
        x.seen(7, false);
        is("those three", x.feigned(3, NONE), 1);
        is("those three", x.feigned(3, 0), 7);
        x = parish("r;h;h;h;h;h;h");
        x.seen(63, false);
        is("all six would be needed", x.feigned(3, NONE), 0);
    }

    private static void honestAndNothingFits() {
        about("HONEST for k: HOUSES (bits) in none of these; promise 30: NONE: nothing fits, no PARISH, out of bounds");
        OwedDays x = parish("r;h;h;h;h;h;h");
        is("of none all are", x.honest(0), 63);
        is("any one", x.honest(1), 0);
        is("any three", x.honest(3), 0);
        x.seen(9, false);
        is("none: nothing fits", x.honest(0), NONE);
        is("one: nothing fits", x.honest(1), NONE);
        is("both", x.honest(2), 63 - 9);
        is("both and any", x.honest(3), 0);
        x.seen(48, true);
        x.seen(16, true);
        is("not 4", x.honest(3), 16);
        x.seen(54, true);
        is("that tells no more", x.honest(3), 16);
        x.seen(32, false);
        is("just these", x.honest(3), 63 - 9 - 32);
        is("two: nothing fits", x.honest(2), NONE);
        is("more than there are", parish("r;h").honest(2), NONE);
        is("the only one", parish("r;h").honest(1), 0);
        is("no parish", new OwedDays().honest(0), NONE);
    }

    private static void watchOfSeveral() {
        about("WATCH for k: the HOUSE for which yes and no are least apart (of several the lowest); promise 31: NONE: nothing fits ..");
        OwedDays x = parish("r;h;h;h;h;h;h");
        for (int k = 0; k <= 3; k++) {
            is("all alike by " + k, x.best(k), 0);
        }
        x.seen(1, true);
        is("by none all alike", x.best(0), 0);
        is("not 0, of whom it is known", x.best(1), 1);
        is("of two", x.best(2), 1);
        x.seen(2, false);
        is("none feigned: nothing fits", x.best(0), NONE);
        is("just 1: all alike", x.best(1), 0);
        is("1 and one of four", x.best(2), 2);
        x.seen(4, true);
        x.seen(24, true);
        is("1 and two of 3, 4, 5, not 3 and 4 both", x.best(3), 3);
        x.seen(8, true);
        is("1, 4, 5: all known", x.best(3), 0);
        x.seen(16, true);
        is("three: nothing fits", x.best(3), NONE);
        is("more than there are", parish("r;h;h").best(3), NONE);
        is("no parish", new OwedDays().best(0), NONE);
        x = parish("r;h;h;h;h;h;h");
        x.seen(3, false);
        // By 3: 0 and 1 with one of four: each of the four once of four times.
        is("of four the lowest", x.best(3), 2);
    }

    private static void whoseBounds() {
        about("WHOSE for a STRETCH and e (0 .. 99): HOUSES that DO just e there by a day of KIND 0 or 1");
        OwedDays x = parish("r;ra4b5;hq1;hq2;hq3;hq4;hc4", "y:q=1?99;y:q=2?49;y:q=3?1");
        is("e 99", x.whose(0, 99), 1);
        is("e 98", x.whose(0, 98), 0);
        is("e 49: its own and a boy's", x.whose(0, 49), 3);
        is("e 50", x.whose(0, 50), 0);
        is("e 24", x.whose(0, 24), 2);
        is("e 1", x.whose(0, 1), 4);
        is("e 0: a boy's of 1, both of 0, not who can't come", x.whose(0, 0), 12);
        is("who comes to 1", x.whose(1, 1), 16);
        is("e 100", x.whose(0, 100), NONE);
        is("e -1", x.whose(0, -1), NONE);
        is("the greatest e", x.whose(0, Integer.MAX_VALUE), NONE);
        is("the least e", x.whose(0, Integer.MIN_VALUE), NONE);
        is("stretch 2", x.whose(2, 0), NONE);
        is("stretch -1", x.whose(-1, 0), NONE);
        is("no parish", new OwedDays().whose(0, 0), NONE);
        is("nobody comes: nobody's", parish("r;hc5").whose(0, 0), 0);
        is("not a bought one", parish("r;hq9").whose(0, 8), 0);
        x.seasons(3);
        is("in winter", x.whose(0, 49), 1);
        is("in winter a boy's", x.whose(0, 24), 3);
    }

    private static void failsFirst() {
        about("FAILS: the STRETCH that has WEAR 99 first (of several the lowest); behind how many SEASONS (0: it has)");
        OwedDays x = parish("rw98u0e0;rw99;rw99;h");
        is("which has it", x.fails(0), 1);
        is("now", x.fails(1), 0);
        x = parish("rw97u1;rw98u1;rw98u9;h");
        is("the lower of two", x.fails(0), 1);
        is("behind one", x.fails(1), 1);
        x = parish("rw97u1;rw98u0;rw90u9;h");
        is("99 by nine", x.fails(0), 2);
        is("behind one", x.fails(1), 1);
        x = parish("rw97u1;rw98u0;rw89u9;h");
        is("98 by nine: behind two both", x.fails(0), 0);
        is("behind two", x.fails(1), 2);
        about("promise 33: NONE: not within 200, no PARISH, no such what");
        is("what 2", x.fails(2), NONE);
        is("what -1", x.fails(-1), NONE);
        for (int what = 0; what < 2; what++) {
            is("no parish", new OwedDays().fails(what), NONE);
        }
    }

    private static void failsWithin200() {
        about("FAILS .. (200 at most)");
        // One wear each winter: behind 4, 8, .. seasons.
        for (int wear = 99; wear >= 40; wear--) {
            OwedDays x = parish("sf1;rw" + wear + "u0e0;h");
            int seasons = 4 * (99 - wear);
            is("when from " + wear, x.fails(1), seasons <= 200 ? seasons : NONE);
            is("which from " + wear, x.fails(0), seasons <= 200 ? 0 : NONE);
        }
        OwedDays x = parish("sf1;rw48u0e0;h");
        x.seasons(1);
        is("behind 203", x.fails(1), NONE);
        x.seasons(2);
        is("behind 201", x.fails(1), NONE);
        is("behind 201", x.fails(0), NONE);
        x.seasons(1);
        is("behind 200", x.fails(1), 200);
        x = parish("sf0;ru0e0;h");
        is("never", x.fails(1), NONE);
        is("never which", x.fails(0), NONE);
        x = parish("sf0;ru0e0w0;rw0u0e0;rw0u1e0;h");
        is("the third", x.fails(0), 2);
        is("behind 99", x.fails(1), 99);
    }

    private static void failsBehindTheLastSeason() {
        about("(Apart, from as it is now; SEASONS go on behind 3,999.)");
        OwedDays x = parish("sf0;rw0u0e0;hq5");
        for (int i = 0; i < 66; i++) {
            x.seasons(60);
        }
        x.seasons(39);
        is("the last season", x.count(5), 3999);
        is("never", x.fails(1), NONE);
        x = parish("sf9;rw0u0e0;hq9", "y:99");
        for (int i = 0; i < 66; i++) {
            x.seasons(60);
        }
        x.seasons(39);
        is("winter: 49 off", x.work(0, 0, 0), 50);
        is("still winter: all off", x.work(0, 0, 0), 1);
        // 9 behind one season (winter), then each fourth: 11 winters to 99.
        is("behind the last", x.fails(1), 41);
        is("odds go on, too", x.odds(0, 7, 100), ALL);
        is("odds go on, too", x.odds(0, 6, 100), 0);
        is("none went by", x.count(5), 3999);
    }

    private static void oddsBounds() {
        about("ODDS for a STRETCH, n (0 .. 40) SEASONS, a chance (0 .. 100); promise 34: NONE: no such STRETCH, out of bounds");
        OwedDays x = parish("sf1;rw20u0e0;rw21u1e0;h");
        is("n 0", x.odds(0, 0, 50), 0);
        is("n 40, chance 100", x.odds(0, 40, 100), ALL);
        is("n 39, chance 100", x.odds(0, 39, 100), 0);
        is("n 41", x.odds(0, 41, 100), NONE);
        is("n -1", x.odds(0, -1, 100), NONE);
        is("the greatest n", x.odds(0, Integer.MAX_VALUE, 100), NONE);
        is("the least n", x.odds(0, Integer.MIN_VALUE, 100), NONE);
        is("chance 0", x.odds(0, 40, 0), 0);
        is("chance 0 by use", x.odds(1, 39, 0), ALL);
        is("chance 0 by use", x.odds(1, 38, 0), 0);
        is("chance 101", x.odds(0, 40, 101), NONE);
        is("chance -1", x.odds(0, 40, -1), NONE);
        is("the greatest chance", x.odds(0, 1, Integer.MAX_VALUE), NONE);
        is("the least chance", x.odds(0, 1, Integer.MIN_VALUE), NONE);
        is("stretch 2", x.odds(2, 1, 1), NONE);
        is("stretch -1", x.odds(-1, 1, 1), NONE);
        is("no parish", new OwedDays().odds(0, 0, 0), NONE);
    }

    private static void oddsFrom60() {
        about("of 10 to the 9 parts those with WEAR 60 or more behind them");
        for (int wear = 0; wear <= 99; wear++) {
            OwedDays x = parish("sf3;rw" + wear + "u2e4;h");
            is("now at " + wear, x.odds(0, 0, 100), wear >= 60 ? ALL : 0);
            is("by use at " + wear, x.odds(0, 1, 0), wear >= 58 ? ALL : 0);
            is("by frost at " + wear, x.odds(0, 1, 100), wear >= 51 ? ALL : 0);
            is("by a chance of 30 at " + wear, x.odds(0, 1, 30), wear >= 58 ? ALL : wear >= 51 ? 300000000 : 0);
        }
        OwedDays x = parish("sp9f3;rw51u2e4;ra1b2;h");
        is("in spring as in winter", x.odds(0, 1, 100), ALL);
        x.pay(0, 1);
        x.ditch(0);
        is("by wet as it is now", x.odds(0, 1, 100), 0);
    }

    private static void oddsCut() {
        about("by WEAR, chance by 100 of each part, cut, has FROST");
        OwedDays x = parish("sf1;rw50u0e0;h");
        // Ten frosts in a row by a chance of 10: a tenth each time, cut: 1 part of all is left behind nine.
        int parts = ALL;
        for (int n = 1; n <= 9; n++) {
            parts = (int) ((long) parts * 10 / 100);
        }
        is("one part left behind nine", parts, 1);
        is("none behind ten", x.odds(0, 10, 10), 0);
        x = parish("sf1;rw51u0e0;h");
        is("one behind nine", x.odds(0, 9, 10), 1);
        for (int chance : new int[] {1, 33, 50, 67, 99}) {
            for (int n = 0; n <= 40; n += 8) {
                x = parish("sf2;rw40u1e1;h");
                is("chance " + chance + ", n " + n, x.odds(0, n, chance), partsBad(40, 1, 4, n, chance));
                x = parish("sf9;rw7u0e9;h");
                is("by 18, chance " + chance + ", n " + n, x.odds(0, n, chance), partsBad(7, 0, 18, n, chance));
            }
        }
    }

    private static long partsBad(int wear, int use, int frosty, int n, int chance) {
        long[] parts = new long[100];
        parts[wear] = ALL;
        for (int season = 0; season < n; season++) {
            long[] next = new long[100];
            for (int w = 0; w < 100; w++) {
                long with = parts[w] * chance / 100;
                next[Math.min(99, w + frosty)] += with;
                next[Math.min(99, w + use)] += parts[w] - with;
            }
            parts = next;
        }
        long bad = 0;
        for (int w = 60; w < 100; w++) {
            bad += parts[w];
        }
        return bad;
    }

    private static void oddsFromZero() {
        about("ODDS from WEAR 0");
        OwedDays x = parish("sf0;rw0u9e0;ra1b2w0u0e9;h");
        is("63 by use", x.odds(0, 7, 0), ALL);
        is("54 by use", x.odds(0, 6, 0), 0);
        is("63 by wet", x.odds(1, 7, 100), ALL);
        is("54 by wet", x.odds(1, 6, 100), 0);
        is("seven of ten", x.odds(1, 10, 50), partsBad(0, 0, 9, 10, 50));
        is("stays at 0", x.odds(1, 40, 0), 0);
    }

    private static void odds99AtMost() {
        about("ODDS .. 99 at most");
        for (int wear = 70; wear <= 99; wear++) {
            OwedDays x = parish("sf9;rw" + wear + "u9e9;h");
            is("none is lost from " + wear, x.odds(0, 40, 50), ALL);
            is("none is lost from " + wear, x.odds(0, 1, 99), ALL);
        }
    }

    private static void tollBounds() {
        about("TOLL: each HOUSE pays t (1 .. 9); promise 35: NONE: no PARISH, out of bounds, no such what");
        OwedDays x = parish("ru2;ra1b2u5;h;hc1;hc2");
        for (int t = 1; t <= 9; t++) {
            is("who by " + t, x.toll(t, 0), 2);
            is("all by " + t, x.toll(t, 1), 9 * t);
        }
        for (int t : new int[] {0, 10, -1, Integer.MAX_VALUE, Integer.MIN_VALUE}) {
            is("who by " + t, x.toll(t, 0), NONE);
            is("all by " + t, x.toll(t, 1), NONE);
        }
        is("what 2", x.toll(1, 2), NONE);
        is("what -1", x.toll(1, -1), NONE);
        is("no parish", new OwedDays().toll(1, 0), NONE);
        is("no parish", new OwedDays().toll(1, 1), NONE);
        is("the most", parish(LINE.replace(";", "u9;") + "u9;hc7;hc7;hc7;hc7;hc7;hc7").toll(9, 1), 9 * 6 * 63);
    }

    private static void tollOfSeveral() {
        about("TOLL: the HOUSE that would pay most (of several the lowest)");
        is("two alike", parish("ru2;h;hc1;hc1").toll(1, 0), 1);
        is("nobody pays", parish("ru2;h;h").toll(9, 0), 0);
        is("nobody pays", parish("ru2;h;h").toll(9, 1), 0);
        is("no use", parish("ru0;h;hc1").toll(9, 0), 0);
        is("no way", parish("ru9;ra4b5u9;hc4;hc1").toll(1, 0), 1);
        is("by use, not by length", parish("ru9;ra0b2u1;ra2b3u1;hc3;hc1").toll(1, 0), 1);
        is("the last of six", parish("ru1;ra1b2u1;h;h;h;hc1;hc1;hc2").toll(1, 0), 5);
    }

    private static void worstOfSeveral() {
        about("WORST: the STRETCH with the most WEAR (of several the lowest); promise 36: NONE: no PARISH");
        is("no parish", new OwedDays().worst(), NONE);
        is("one", parish("rw0;h").worst(), 0);
        is("all alike", parish("rw7;rw7;rw7;h").worst(), 0);
        is("the last", parish("rw0;rw0;rw0;rw0;rw0;rw0;rw0;rw0;rw1;h").worst(), 8);
        is("the lower of two", parish("rw98;rw99;rw99;h").worst(), 1);
        OwedDays x = parish("rw98u0;rw97u1;rw90u9;h");
        x.seasons(1);
        is("now the third", x.worst(), 2);
        x.seasons(1);
        is("now two have 99", x.worst(), 1);
    }

    private static void endsWithJustOne() {
        about("ENDS: PLACES (bits) with just one STRETCH; promise 37: NONE: no PARISH");
        is("no parish", new OwedDays().ends(), NONE);
        is("both of one", parish("r;h").ends(), 3);
        is("a line of eight", parish(LINE + ";h").ends(), 129);
        is("a ring", parish(LINE + ";ra7b0;h").ends(), 0);
        is("two beside each other", parish("ra6b7;ra7b6;h").ends(), 0);
        is("three at one", parish("ra3b4;ra3b5;ra6b3;h").ends(), 16 + 32 + 64);
        is("apart", parish("r;ra2b3;ra4b5;ra6b7;h").ends(), 255);
    }

    private static void cutFromZero() {
        about("CUT: STRETCHES (bits) without which some PLACE that can be reached from 0 can't; promise 38: NONE: no PARISH");
        is("no parish", new OwedDays().cut(), NONE);
        is("one", parish("r;h").cut(), 1);
        is("a line of eight", parish(LINE + ";h").cut(), 127);
        is("a ring", parish(LINE + ";ra7b0;h").cut(), 0);
        is("two and one", parish("r;rb1a0;ra1b2;h").cut(), 4);
        is("not reached from 0", parish("ra1b2;ra2b3;h").cut(), 0);
        is("part of it", parish("ra0b3;ra1b2;ra3b4;h").cut(), 5);
        is("a ring on a stalk", parish("ra7b0;ra7b6;ra6b5;ra5b7;h").cut(), 1);
        is("nine", parish("r;r;ra1b2;ra2b3;ra3b1;ra3b4;ra4b5;ra5b6;ra6b7;h").cut(), 32 + 64 + 128 + 256);
    }

    private static void owedByAll() {
        about("OWED: days that all owe");
        OwedDays x = parish("sd9;r;h;h;h;h;h;h");
        is("all of all", x.count(8), 54);
        for (int h = 0; h < 6; h++) {
            x.pay(h, 9);
        }
        is("none", x.count(8), 0);
        x.seasons(4);
        is("anew", x.count(8), 54);
        is("no debt", x.count(9), 0);
        is("no parish", new OwedDays().count(8), 0);
    }

    private static void neighboursOfNone() {
        about("NEIGHBOURS of a STRETCH: STRETCHES (bits) that share a PLACE with it; promise 39: NONE: no such STRETCH");
        is("alone", parish("r;h").neighbours(0), 0);
        is("far apart", parish("r;ra2b3;h").neighbours(1), 0);
        is("by a and a", parish("r;ra0b2;h").neighbours(0), 2);
        is("by a and b", parish("r;ra2b0;h").neighbours(0), 2);
        is("by b and a", parish("r;ra1b2;h").neighbours(0), 2);
        is("by b and b", parish("r;ra2b1;h").neighbours(0), 2);
        is("by both", parish("r;ra1b0;h").neighbours(1), 1);
        OwedDays x = parish("r;r;r;r;r;r;r;r;r;h");
        for (int s = 0; s < 9; s++) {
            is("all others of " + s, x.neighbours(s), 511 - (1 << s));
        }
        is("stretch 9", x.neighbours(9), NONE);
        is("stretch -1", x.neighbours(-1), NONE);
        is("the greatest", x.neighbours(Integer.MAX_VALUE), NONE);
        is("no parish", new OwedDays().neighbours(0), NONE);
    }

    private static void counts() {
        about("promise 42: HIDDEN for others");
        for (OwedDays x : new OwedDays[] {new OwedDays(), parish("r;h")}) {
            for (int what : new int[] {-1, 14, 15, 100, -1000, Integer.MAX_VALUE, Integer.MIN_VALUE}) {
                is("count(" + what + ")", x.count(what), HIDDEN);
            }
        }
        OwedDays x = new OwedDays();
        is("no law holds", x.count(4), NONE);
        tell(x, "y:1");
        is("three bytes", x.count(3), 3);
        x.text(1);
        is("none", x.count(3), 0);
        is("one law", x.count(2), 1);
        is("that does not hold", x.count(4), NONE);
        about("promise 9: The LAW that holds (NONE: none). False: no such one");
        is("law 1", x.law(1), false);
        is("law -2", x.law(-2), false);
        is("the greatest", x.law(Integer.MAX_VALUE), false);
        is("the least", x.law(Integer.MIN_VALUE), false);
        is("none holds", x.count(4), NONE);
        is("law 0", x.law(0), true);
        is("it holds", x.count(4), 0);
        is("law 1", x.law(1), false);
        is("it holds on", x.count(4), 0);
        is("none", x.law(NONE), true);
        is("none holds", x.count(4), NONE);
    }

    private static void askedOfNine() {
        about("nine STRETCHES and six HOUSES: no other number is taken for one of theirs");
        String round = LINE + ";ra7b0w99;ra7b6w99u9";
        OwedDays x = parish(round + ";hc1;h;h;h;h;h");
        is("one pays for one", x.toll(1, 1), 3);
        is("that one", x.toll(1, 0), 0);
        is("all of it", x.shares(0, 999), 999);
        is("the last of six", parish(round + ";h;h;h;h;h;hc1q9z9").toll(1, 0), 5);
        is("the last of six alone", parish(round + ";h;h;h;h;h;hc1q9z9").shares(5, 999), 999);
        is("cut of nine", parish("r;r;ra1b2;ra2b3;ra3b1;ra3b4;ra4b5;ra5b6;ra6b7;hq7").cut(), 32 + 64 + 128 + 256);
        is("ends of nine", parish("r;r;ra1b2;ra2b3;ra3b1;ra3b4;ra4b5;ra5b6;ra6b7;hc7q7").ends(), 128);
        String never = "sf0d9" + ";rw0u0e0".repeat(9) + ";hc7" + ";hq9z9".repeat(5);
        is("none of nine fails", parish(never).fails(0), NONE);
        is("none of nine fails", parish(never).fails(1), NONE);
        is("the first of nine is worst", parish(never).worst(), 0);
        x = parish("sd1;" + "rw0u0;".repeat(8) + "rw60u0e9;h;h;h;h;h;h", "y:w/2+1");
        is("the ninth is worst", x.worst(), 8);
        is("the ninth is worth most", x.worth(5), 8);
        // 60, 29, 14, 6, 2, 0.
        is("the ninth by five of six", x.least(8, 0, 0), 5);
        is("the ninth by five of six", x.least(8, 0, 1), 1234);
        is("the ninth fails first", x.fails(0), 8);
        is("bad is the ninth", x.odds(8, 0, 0), ALL);
        is("the ways", x.way(0, 1, 1), 1);
        x.work(5, 8, 0);
        is("its wear", x.stretch(8, 2), 29);
        x.seasons(1);
        is("the log of nine", x.log(0, 0), 29);
    }
}
