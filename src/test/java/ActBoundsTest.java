import java.math.BigInteger;

/** The boundary cases of '==== 2.' and '==== 4.': one method for each sentence that names some. */
public final class ActBoundsTest extends Checks {
    /** Eight PLACES in a line; STRETCH i leads from PLACE i to i + 1. */
    private static final String LINE = "r;ra1b2;ra2b3;ra3b4;ra4b5;ra5b6;ra6b7";

    public static void main(String[] args) {
        fewestStretches();
        byEveryPlace();
        cannotComeThere();
        heldWithin99();
        zeroAtLeastWithoutALaw();
        halfCut();
        boughtWhereverItIs();
        halfInWinter();
        lettersAtTheirBounds();
        wearZeroAtLeast();
        owesOne();
        kindsOfWork();
        paysWhatItOwes();
        paysOneToNine();
        ditchedByTwo();
        ditchedIfWet();
        nineWetAtMost();
        othersThatShareB();
        latestFortyActs();
        everyActCanBeUndone();
        undoneAndDoneAgain();
        statusOfWork();
        statusOfPay();
        statusOfDitch();
        statusOfSeasons();
        statusIsNotUndone();
        wearOfASeason();
        wear99AtMost();
        seasonsOneToSixty();
        lastSeason();
        yearsToTheLastSeason();
        springs();
        debt999AtMost();
        badFrom60();
        daysSinceTheSeason();
        latestSixtyOfTheLog();
        logIsUndone();
        yearsOneToSixty();
        zealOfYears();
        drawsGoRound();
        yearsWithoutStatus();
        yearsAreOneActEach();
        imageKeeps();
        backForgetsActs();
        imageInsteadOfTheOneAhead();
        imageOfThisParish();
        newParishForgets();
        smallerParish();
        fullParish();
        tellAndExit();
    }

    private static void toSeason(OwedDays x, int season) {
        while (x.count(5) < season) {
            x.seasons(Math.min(60, season - x.count(5)));
        }
    }

    private static void fewestStretches() {
        about("HAUL: the fewest STRETCHES on a way from its PLACE to the nearer one of its two PLACES");
        OwedDays x = parish(LINE + ";h;hc7;hc3");
        for (int s = 0; s < 7; s++) {
            is("from 0 to " + s, x.haul(0, s), s);
            is("from 7 to " + s, x.haul(1, s), 6 - s);
            is("from 3 to " + s, x.haul(2, s), s < 3 ? 2 - s : s - 3);
        }
        x = parish(LINE + ";ra0b7;h");
        for (int s = 0; s < 7; s++) {
            is("round the other way to " + s, x.haul(0, s), Math.min(s, 7 - s));
        }
        is("to the last one", x.haul(0, 7), 0);
        x = parish("ra1b0w99;ra0b2w0;ra2b1w0;ra1b3;h");
        is("fewest, whatever their wear", x.haul(0, 3), 1);
    }

    private static void byEveryPlace() {
        about("HAUL .. on a way (over each PLACE, to each PLACE)");
        for (int code = 0; code < 8 * 8 * 8 * 8; code++) {
            int from = code / 512;
            int by = code / 64 % 8;
            int to = code / 8 % 8;
            int end = code % 8;
            if (Integer.bitCount(1 << from | 1 << by | 1 << to | 1 << end) == 4) {
                OwedDays x = parish("ra" + from + "b" + by + ";ra" + by + "b" + to + ";ra" + to + "b" + end + ";hc" + from);
                String way = "from " + from + " by " + by + " and " + to + " to " + end;
                is("first " + way, x.haul(0, 0), 0);
                is("second " + way, x.haul(0, 1), 1);
                is("third " + way, x.haul(0, 2), 2);
            }
        }
    }

    private static void cannotComeThere() {
        about("none: it can't come there");
        OwedDays x = parish("r;ra2b3;hc0;hc3;hc4");
        is("its own side", x.haul(0, 0), 0);
        is("the other side", x.haul(0, 1), NONE);
        is("its own side", x.haul(1, 1), 0);
        is("the other side", x.haul(1, 0), NONE);
        is("from where no stretch is", x.haul(2, 0), NONE);
        is("from where no stretch is", x.haul(2, 1), NONE);
    }

    private static void heldWithin99() {
        about("WORTH by the LAW that holds, held within 0 .. 99");
        int[][] due = {{-9999, 0}, {-2, 0}, {-1, 0}, {0, 0}, {1, 1}, {2, 2}, {97, 97}, {98, 98}, {99, 99}, {100, 99}, {101, 99}, {9999, 99}};
        for (int[] d : due) {
            String law = d[0] < 0 ? "y:0-" + -d[0] : "y:" + d[0];
            OwedDays x = parish("rw99;h", law);
            is("does by " + law, x.does(0, 0, 0), d[1]);
            is("a boy's by " + law, x.does(0, 0, 1), d[1] / 2);
            is("works by " + law, x.work(0, 0, 0), 99 - d[1]);
        }
        is("the most", parish("r;h", "y:9999*9999").does(0, 0, 0), 99);
        is("the least", parish("r;h", "y:0-9999*9999").does(0, 0, 0), 0);
    }

    private static void zeroAtLeastWithoutALaw() {
        about("none at first: twice CART, less HAUL, 0 at least");
        for (int cart = 1; cart <= 9; cart++) {
            OwedDays x = parish(LINE + ";hq" + cart);
            for (int s = 0; s < 7; s++) {
                is("cart " + cart + ", haul " + s, x.does(0, s, 0), Math.max(0, 2 * cart - s));
            }
        }
    }

    private static void halfCut() {
        about("KINDS: 0 its own: all that; 1 a boy's: half, cut; 3 feigned: nothing");
        for (int worth = 0; worth < 100; worth++) {
            OwedDays x = parish("r;h", "y:" + worth);
            is("own", x.does(0, 0, 0), worth);
            is("a boy's", x.does(0, 0, 1), worth / 2);
            is("feigned", x.does(0, 0, 3), 0);
            x.seasons(3);
            is("own in winter", x.does(0, 0, 0), worth / 2);
            is("a boy's in winter", x.does(0, 0, 1), worth / 2 / 2);
            is("feigned in winter", x.does(0, 0, 3), 0);
        }
    }

    private static void boughtWhereverItIs() {
        about("2 BOUGHT: 8, wherever it is, and PRICE comes into the BOX");
        for (String law : new String[] {"y:0", "y:7", "y:99"}) {
            OwedDays x = parish("sp9;rw50;ra2b3w50;h;hc5", law);
            is("does", x.does(0, 0, 2), 8);
            is("does far away", x.does(0, 1, 2), 8);
            is("does from nowhere", x.does(1, 0, 2), 8);
            is("works", x.work(0, 0, 2), 42);
            is("works far away", x.work(0, 1, 2), 42);
            is("works from nowhere", x.work(1, 1, 2), 34);
            is("the box", x.count(6), 27);
        }
        OwedDays x = parish("sp0;r;h");
        is("at no price", x.work(0, 0, 2), 12);
        is("no price in the box", x.count(6), 0);
        x = parish("sp9;r;h");
        x.work(0, 0, 0);
        x.work(0, 0, 1);
        x.work(0, 0, 3);
        is("no price for the others", x.count(6), 0);
    }

    private static void halfInWinter() {
        about("In winter half of that (cut) again (0 spring, 1 summer, 2 autumn, 3 winter)");
        OwedDays x = parish("r;hq5", "y:15+s");
        for (int season = 0; season < 13; season++) {
            toSeason(x, season);
            int worth = 15 + season % 4;
            boolean winter = season % 4 == 3;
            is("own in season " + season, x.does(0, 0, 0), winter ? 9 : worth);
            is("a boy's in season " + season, x.does(0, 0, 1), winter ? 4 : worth / 2);
            is("bought in season " + season, x.does(0, 0, 2), winter ? 4 : 8);
            is("feigned in season " + season, x.does(0, 0, 3), 0);
        }
    }

    private static void lettersAtTheirBounds() {
        about("letters: q CART, z ZEAL, h HAUL, w WEAR, e WET, s the SEASON");
        OwedDays x = parish(LINE + ";hq1z0;hq9z9");
        String[] laws = {"y:q", "y:z", "y:h", "y:w"};
        for (String law : laws) {
            tell(x, law);
            x.text(1);
        }
        x.law(0);
        is("the least cart", x.does(0, 0, 0), 1);
        is("the greatest cart", x.does(1, 0, 0), 9);
        x.law(1);
        is("the least zeal", x.does(0, 0, 0), 0);
        is("the greatest zeal", x.does(1, 0, 0), 9);
        x.law(2);
        is("the least haul", x.does(0, 0, 0), 0);
        is("the greatest haul", x.does(0, 6, 0), 6);
        x = parish("sp9;rw0e0;ra1b2w99e9;h", "y:w");
        is("the least wear", x.does(0, 0, 0), 0);
        is("the greatest wear", x.does(0, 1, 0), 99);
        hold(x, "y:e");
        is("the least wet", x.does(0, 0, 0), 0);
        is("the greatest wet", x.does(0, 1, 0), 9);
        x.pay(0, 1);
        x.ditch(1);
        is("wet now", x.does(0, 1, 0), 8);
        hold(x, "y:50+s");
        toSeason(x, 3999);
        is("winter", x.does(0, 0, 0), 26);
    }

    private static void wearZeroAtLeast() {
        about("WEAR less by what it DOES so, 0 at least");
        for (int wear = 0; wear < 20; wear++) {
            is("own by 5 from " + wear, parish("rw" + wear + ";h", "y:5").work(0, 0, 0), Math.max(0, wear - 5));
            is("a boy's by 2 from " + wear, parish("rw" + wear + ";h", "y:5").work(0, 0, 1), Math.max(0, wear - 2));
            is("bought by 8 from " + wear, parish("rw" + wear + ";h").work(0, 0, 2), Math.max(0, wear - 8));
            is("feigned from " + wear, parish("rw" + wear + ";h").work(0, 0, 3), wear);
            is("all of it from " + wear, parish("rw" + wear + ";h", "y:99").work(0, 0, 0), 0);
        }
        OwedDays x = parish("rw0;h");
        is("a day at 0 is worked", x.work(0, 0, 0), 0);
        is("and no longer owed", x.house(0, 3), 5);
        is("and counted", x.count(10), 1);
    }

    private static void owesOne() {
        about("a HOUSE WORKS a day (it owes one); it owes a day less");
        for (int kind = 0; kind < 4; kind++) {
            OwedDays x = parish("sd1;rw50;h;h");
            is("the one, kind " + kind, x.work(0, 0, kind) != NONE, true);
            is("owes none", x.house(0, 3), 0);
            is("the other still owes", x.house(1, 3), 1);
            for (int again = 0; again < 4; again++) {
                is("no day left for kind " + again, x.work(0, 0, again), NONE);
            }
            is("status 2", x.status(2), 4);
            is("owes none", x.house(0, 3), 0);
            is("one day worked", x.count(10), 1);
        }
        OwedDays x = parish("sd9;rw99;h", "y:1");
        for (int day = 1; day <= 9; day++) {
            is("day " + day, x.work(0, 0, 0), 99 - day);
        }
        is("a tenth", x.work(0, 0, 0), NONE);
        x.seasons(3);
        is("still none in winter", x.work(0, 0, 0), NONE);
        x.seasons(1);
        is("owes anew in spring", x.work(0, 0, 0) != NONE, true);
    }

    private static void kindsOfWork() {
        about("BOUGHT: also if it can't come there");
        OwedDays x = parish("rw50;ra4b5w50;h;hc4");
        is("own", x.work(0, 1, 0), NONE);
        is("a boy's", x.work(0, 1, 1), NONE);
        is("feigned", x.work(0, 1, 3), NONE);
        is("status 2", x.status(2), 3);
        is("bought", x.work(0, 1, 2), 42);
        is("owes five", x.house(0, 3), 5);
        is("there it comes", x.work(1, 1, 0), 36);
        is("and not here", x.work(1, 0, 1), NONE);
    }

    private static void paysWhatItOwes() {
        about("It PAYS n days off: PRICE each into the BOX .. it owes fewer (2)");
        for (int owed = 1; owed <= 9; owed++) {
            for (int n = 1; n <= 9; n++) {
                OwedDays x = parish("sd" + owed + "p7;r;h");
                is("pays " + n + " of " + owed, x.pay(0, n), n <= owed ? 7 * n : NONE);
                is("owes then", x.house(0, 3), n <= owed ? owed - n : owed);
                is("the box then", x.count(6), n <= owed ? 7 * n : 0);
                is("status 2", x.status(2), n <= owed ? 0 : 1);
                is("no day worked", x.count(10), 0);
            }
        }
        OwedDays x = parish("sd9p0;r;h");
        is("at no price", x.pay(0, 9), 0);
        is("owes none", x.house(0, 3), 0);
        x = parish("sd9p9;r;h;h;h;h;h;h");
        for (int h = 0; h < 6; h++) {
            is("all of them", x.pay(h, 9), 81 * (h + 1));
        }
    }

    private static void paysOneToNine() {
        about("promise 13: n (1 .. 9) .. out of bounds (1)");
        OwedDays x = parish("sd9;r;h");
        int[] outside = {0, 10, -1, -9, 11, Integer.MAX_VALUE, Integer.MIN_VALUE};
        for (int i = 0; i < outside.length; i++) {
            is("pays " + outside[i], x.pay(0, outside[i]), NONE);
            is("status 1", x.status(1), i + 1);
        }
        is("owes all", x.house(0, 3), 9);
        is("an empty box", x.count(6), 0);
        is("one", x.pay(0, 1), 3);
        is("eight", x.pay(0, 8), 27);
    }

    private static void ditchedByTwo() {
        about("A STRETCH is DITCHED (2 from the BOX) .. too little in the BOX (3)");
        OwedDays x = parish("sp1;re9;h;h");
        is("none in the box", x.ditch(0), NONE);
        x.pay(0, 1);
        is("one in the box", x.ditch(0), NONE);
        is("status 3", x.status(3), 2);
        is("it stays", x.count(6), 1);
        is("wet as before", x.stretch(0, 3), 9);
        x.pay(0, 1);
        is("two in the box", x.ditch(0), 8);
        is("none left", x.count(6), 0);
        x.pay(0, 3);
        is("three in the box", x.ditch(0), 7);
        is("one left", x.count(6), 1);
        is("too little again", x.ditch(0), NONE);
        is("status 3", x.status(3), 3);
    }

    private static void ditchedIfWet() {
        about("WET one less (it has some) .. not WET (3)");
        for (int wet = 0; wet <= 9; wet++) {
            OwedDays x = parish("sp9;re" + wet + ";h");
            x.pay(0, 6);
            for (int left = wet - 1; left >= 0; left--) {
                is("wet then", x.ditch(0), left);
            }
            is("not wet", x.ditch(0), NONE);
            is("status 3", x.status(3), 1);
            is("not below 0", x.stretch(0, 3), 0);
            is("the box has what was not spent", x.count(6), 54 - 2 * wet);
        }
        OwedDays x = parish("sp9;re0;ra1b2e5;h");
        x.pay(0, 1);
        x.ditch(0);
        is("not wet: the others stay, too", x.stretch(1, 3), 5);
    }

    private static void nineWetAtMost() {
        about("of each other STRETCH that shares its PLACE b one more, 9 at most");
        for (int wet = 0; wet <= 9; wet++) {
            OwedDays x = parish("sp9;re5;ra1b2e" + wet + ";h");
            x.pay(0, 1);
            is("itself", x.ditch(0), 4);
            is("the other from " + wet, x.stretch(1, 3), Math.min(9, wet + 1));
        }
    }

    private static void othersThatShareB() {
        about("each other STRETCH that shares its PLACE b");
        OwedDays x = parish("sp9;ra3b4e5;ra3b4e5;ra4b3e5;ra4b5e5;ra6b4e5;ra3b2e5;ra6b7e5;h");
        int[] due = {4, 6, 6, 6, 6, 5, 5};
        x.pay(0, 6);
        x.ditch(0);
        for (int s = 0; s < 7; s++) {
            is("wet of " + s, x.stretch(s, 3), due[s]);
        }
        int[] then = {5, 7, 5, 6, 6, 6, 5};
        x.ditch(2);
        for (int s = 0; s < 7; s++) {
            is("wet of " + s + " then", x.stretch(s, 3), then[s]);
        }
        is("each is one act", x.count(13), 3);
    }

    private static void latestFortyActs() {
        about("the latest 40 can be UNDONE one by one");
        for (int acts = 37; acts <= 43; acts++) {
            OwedDays x = parish("sf0;rw0u1e0;h");
            is("so many", x.seasons(acts), acts);
            int can = Math.min(40, acts);
            is("can be undone of " + acts, x.count(13), can);
            for (int left = can - 1; left >= 0; left--) {
                is("still can be", x.undo(), left);
                is("and so it tells", x.count(13), left);
                is("the season ahead of it", x.count(5), acts - can + left);
                is("its wear, too", x.stretch(0, 2), acts - can + left);
            }
            is("none", x.undo(), NONE);
            is("none is none again", x.undo(), NONE);
            is("those ahead of them stand", x.count(5), acts - can);
        }
        OwedDays x = parish("rw99u0e0;h;h;h;h;h;h", "y:1");
        for (int act = 0; act < 36; act++) {
            x.work(act / 6, 0, 0);
        }
        x.seasons(4);
        is("by hand and seasons: forty", x.count(13), 40);
        x.work(0, 0, 0);
        is("still forty", x.count(13), 40);
        while (x.undo() != NONE) {
            is("the first day stands", x.stretch(0, 2) <= 98, true);
        }
        is("all but the first undone", x.stretch(0, 2), 98);
        is("the first day is not owed", x.count(8), 35);
    }

    private static void everyActCanBeUndone() {
        about("All these (each SEASON) are ACTS");
        OwedDays x = parish("sp3d4;rw50e4;ra1b2e9;h;h");
        String[] views = new String[8];
        views[0] = Probe.now(x);
        x.work(0, 0, 0);
        views[1] = Probe.now(x);
        x.work(1, 0, 2);
        views[2] = Probe.now(x);
        x.pay(1, 2);
        views[3] = Probe.now(x);
        x.ditch(0);
        views[4] = Probe.now(x);
        x.seasons(1);
        views[5] = Probe.now(x);
        x.years(1, 77);
        views[6] = Probe.now(x);
        x.seasons(2);
        views[7] = Probe.now(x);
        is("acts", x.count(13), 8);
        x.undo();
        for (int act = 6; act >= 0; act--) {
            is("still can be", x.undo(), act);
            is("as it was ahead of act " + (act + 1), Probe.now(x), views[act]);
        }
        is("none", x.undo(), NONE);
    }

    private static void undoneAndDoneAgain() {
        about("UNDONE one by one: what is done behind it can be UNDONE, too");
        OwedDays x = parish("rw99u0e0;h", "y:10");
        x.work(0, 0, 0);
        x.work(0, 0, 0);
        is("one left", x.undo(), 1);
        is("wear", x.work(0, 0, 1), 84);
        is("two acts", x.count(13), 2);
        is("undone", x.undo(), 1);
        is("wear", x.stretch(0, 2), 89);
        x.seasons(60);
        for (int i = 0; i < 15; i++) {
            x.undo();
        }
        is("fifteen undone", x.count(5), 45);
        is("twenty-five can be", x.count(13), 25);
        x.seasons(14);
        is("thirty-nine", x.count(13), 39);
        x.seasons(2);
        is("forty", x.count(13), 40);
        int left = 40;
        while (left > 0) {
            left--;
            is("still can be", x.undo(), left);
        }
        is("where the latest forty began", x.count(5), 21);
    }

    private static void statusIs(OwedDays x, int... due) {
        for (int what = 0; what < 5; what++) {
            is("status(" + what + ")", x.status(what), due[what]);
        }
    }

    private static void statusOfWork() {
        about("promise 12: no such ones (0), no such KIND (1), it owes none, it can't come there (2); of several the first");
        OwedDays x = parish("sd1;r;ra4b5;h;h");
        x.work(1, 0, 0);
        x.work(-1, 0, 0);
        x.work(2, 0, 0);
        x.work(0, -1, 0);
        x.work(0, 2, 0);
        statusIs(x, 4, 0, 0, 0, 0);
        x.work(2, 2, 4);
        x.work(2, 1, 0);
        x.work(1, 2, -1);
        x.work(Integer.MIN_VALUE, Integer.MAX_VALUE, Integer.MIN_VALUE);
        statusIs(x, 8, 0, 0, 0, 0);
        x.work(0, 0, -1);
        x.work(0, 0, 4);
        x.work(0, 0, Integer.MAX_VALUE);
        x.work(1, 0, 4);
        x.work(0, 1, 4);
        x.work(1, 1, Integer.MIN_VALUE);
        statusIs(x, 8, 6, 0, 0, 0);
        x.work(0, 1, 0);
        x.work(1, 0, 0);
        x.work(1, 1, 0);
        x.work(1, 1, 2);
        statusIs(x, 8, 6, 4, 0, 0);
        is("one day worked in all", x.count(10), 1);
        OwedDays none = new OwedDays();
        none.work(0, 0, 0);
        none.work(0, 0, 9);
        statusIs(none, 2, 0, 0, 0, 0);
    }

    private static void statusOfPay() {
        about("promise 13: no such one (0), out of bounds (1), it owes fewer (2); of several the first");
        OwedDays x = parish("sd2;r;h");
        x.pay(-1, 1);
        x.pay(1, 1);
        x.pay(1, 0);
        x.pay(1, 10);
        x.pay(Integer.MAX_VALUE, 3);
        statusIs(x, 5, 0, 0, 0, 0);
        x.pay(0, 0);
        x.pay(0, 10);
        x.pay(0, -1);
        statusIs(x, 5, 3, 0, 0, 0);
        x.pay(0, 3);
        x.pay(0, 9);
        statusIs(x, 5, 3, 2, 0, 0);
        is("it still can", x.pay(0, 2), 6);
        OwedDays none = new OwedDays();
        none.pay(0, 1);
        none.pay(0, 0);
        statusIs(none, 2, 0, 0, 0, 0);
    }

    private static void statusOfDitch() {
        about("promise 14: no such one (0), too little in the BOX, not WET (3); of several the first");
        OwedDays x = parish("sp2;re0;ra2b3e1;h");
        x.ditch(-1);
        x.ditch(2);
        x.ditch(Integer.MIN_VALUE);
        statusIs(x, 3, 0, 0, 0, 0);
        x.ditch(1);
        x.ditch(0);
        statusIs(x, 3, 0, 0, 2, 0);
        x.pay(0, 1);
        x.ditch(0);
        statusIs(x, 3, 0, 0, 3, 0);
        is("wet, and enough in the box", x.ditch(1), 0);
        statusIs(x, 3, 0, 0, 3, 0);
        OwedDays none = new OwedDays();
        none.ditch(0);
        statusIs(none, 1, 0, 0, 0, 0);
    }

    private static void statusOfSeasons() {
        about("promise 15: no PARISH (0), out of bounds (1), beyond 3,999 (4); of several the first");
        OwedDays none = new OwedDays();
        none.seasons(1);
        none.seasons(0);
        none.seasons(61);
        statusIs(none, 3, 0, 0, 0, 0);
        OwedDays x = parish("r;h");
        x.seasons(0);
        x.seasons(-1);
        x.seasons(61);
        x.seasons(Integer.MAX_VALUE);
        x.seasons(Integer.MIN_VALUE);
        statusIs(x, 0, 5, 0, 0, 0);
        toSeason(x, 3999);
        x.seasons(0);
        x.seasons(61);
        statusIs(x, 0, 7, 0, 0, 0);
        x.seasons(1);
        x.seasons(60);
        statusIs(x, 0, 7, 0, 0, 2);
    }

    private static void statusIsNotUndone() {
        about("STATUS .. not UNDONE");
        OwedDays x = parish("r;h");
        x.work(0, 0, 0);
        x.work(9, 0, 0);
        x.work(0, 0, 9);
        x.pay(0, 9);
        x.ditch(0);
        x.undo();
        statusIs(x, 1, 1, 1, 1, 0);
        is("none to undo", x.undo(), NONE);
        statusIs(x, 1, 1, 1, 1, 0);
        x.image();
        x.work(9, 0, 0);
        x.back();
        statusIs(x, 2, 1, 1, 1, 0);
        tell(x, "r;h");
        x.text(0);
        statusIs(x, 2, 1, 1, 1, 0);
        about("promise 17: NONE: no such what");
        is("-1", x.status(-1), NONE);
        is("5", x.status(5), NONE);
        is("the greatest", x.status(Integer.MAX_VALUE), NONE);
        is("the least", x.status(Integer.MIN_VALUE), NONE);
        for (int i = 0; i < 300; i++) {
            x.ditch(5);
        }
        is("hundreds", x.status(0), 302);
    }

    private static void wearOfASeason() {
        about("(1) each STRETCH has USE more WEAR, in winter FROST and WET besides");
        OwedDays x = parish("sf7;rw1u2e3;ra1b2w0u0e0;ra2b3w5u9e9;h");
        int[] use = {2, 0, 9};
        int[] wet = {3, 0, 9};
        int[] wear = {1, 0, 5};
        for (int season = 0; season < 8; season++) {
            is("the season", x.seasons(1), season + 1);
            for (int s = 0; s < 3; s++) {
                wear[s] = Math.min(99, wear[s] + use[s] + (season % 4 == 3 ? 7 + wet[s] : 0));
                is("wear of " + s + " behind season " + season, x.stretch(s, 2), wear[s]);
                is("wet stays", x.stretch(s, 3), wet[s]);
            }
        }
        x = parish("sf0;rw9u0e0;h");
        x.seasons(4);
        is("no use, no frost, not wet", x.stretch(0, 2), 9);
    }

    private static void wear99AtMost() {
        about("99 at most");
        for (int wear = 60; wear <= 99; wear++) {
            OwedDays x = parish("sf9;rw" + wear + "u9e9;ra1b2w" + wear + "u1e0;ra2b3u0e0w" + wear + ";h");
            x.seasons(1);
            is("by 9 from " + wear, x.stretch(0, 2), Math.min(99, wear + 9));
            is("by 1 from " + wear, x.stretch(1, 2), Math.min(99, wear + 1));
            is("by 0 from " + wear, x.stretch(2, 2), wear);
            OwedDays y = parish("sf9;rw" + (wear - 27) + "u9e9;h");
            y.seasons(4);
            is("by 27 and in winter 27 to " + wear, y.stretch(0, 2), Math.min(99, wear + 27));
        }
        for (int wear = 88; wear <= 99; wear++) {
            OwedDays x = parish("sf4;rw" + wear + "u0e5;h");
            x.seasons(4);
            is("by frost 4 and wet 5 from " + wear, x.stretch(0, 2), Math.min(99, wear + 9));
        }
    }

    private static void seasonsOneToSixty() {
        about("promise 15: SEASONS (1 .. 60): the SEASON");
        OwedDays x = parish("r;h");
        is("0", x.seasons(0), NONE);
        is("61", x.seasons(61), NONE);
        is("-1", x.seasons(-1), NONE);
        is("none went by", x.count(5), 0);
        is("no act", x.count(13), 0);
        is("1", x.seasons(1), 1);
        is("60", x.seasons(60), 61);
        is("59", x.seasons(59), 120);
    }

    private static void lastSeason() {
        about("(2) the SEASON is one later (3,999 at most: none goes by then)");
        OwedDays x = parish("rw0u0e0;h");
        toSeason(x, 3939);
        is("sixty to the last", x.seasons(60), 3999);
        for (int n : new int[] {1, 2, 59, 60}) {
            is("beyond by " + n, x.seasons(n), NONE);
        }
        is("status 4", x.status(4), 4);
        is("still the last", x.count(5), 3999);
        is("modulo 4 it is winter", x.does(0, 0, 0), 3);
        is("the log has its sixty", x.count(12), 60);
        is("undone", x.undo(), 39);
        is("two are beyond", x.seasons(2), NONE);
        is("status 4", x.status(4), 5);
        is("not even one of the two went by", x.count(5), 3998);
        is("nor is it an act", x.count(13), 39);
        is("one is not", x.seasons(1), 3999);
        x = parish("sf0;rw0u0e0;h");
        toSeason(x, 3940);
        is("sixty from 3,940", x.seasons(60), NONE);
        is("status 4", x.status(4), 1);
        is("none went by", x.count(5), 3940);
        is("fifty-nine", x.seasons(59), 3999);
        is("work goes on", x.work(0, 0, 0), 0);
        is("pay goes on", x.pay(0, 1), 3);
    }

    private static void yearsToTheLastSeason() {
        about("promise 16: NONE: beyond 3,999");
        OwedDays x = parish("rw0u0e0;h");
        toSeason(x, 3939);
        is("sixty to the last", x.years(60, 5), 3999);
        is("one beyond", x.years(1, 5), NONE);
        is("sixty beyond", x.years(60, 5), NONE);
        is("still the last", x.count(5), 3999);
        x.undo();
        int owed = x.count(8);
        is("two beyond", x.years(2, 5), NONE);
        is("no day was worked for it", x.count(8), owed);
        is("no act", x.count(13), 39);
        is("the last", x.years(1, 5), 3999);
        statusIs(x, 0, 0, 0, 0, 0);
    }

    private static void springs() {
        about("(3) if it is spring then: what each HOUSE still owes is DEBT more, and it owes DAYS anew");
        OwedDays x = parish("sd5;rw99u0;h;h;h");
        x.pay(0, 5);
        x.pay(1, 4);
        for (int season = 1; season <= 3; season++) {
            x.seasons(1);
            is("no debt yet", x.count(9), 0);
            is("owed as before", x.count(8), 6);
        }
        x.seasons(1);
        is("nothing owed, no debt", x.house(0, 4), 0);
        is("one owed", x.house(1, 4), 1);
        is("all owed", x.house(2, 4), 5);
        for (int h = 0; h < 3; h++) {
            is("days anew", x.house(h, 3), 5);
        }
        x.seasons(4);
        is("debt grows", x.house(0, 4), 5);
        is("debt grows", x.house(1, 4), 6);
        is("debt of all", x.count(9), 21);
        x.work(2, 0, 0);
        is("debt is not worked off", x.house(2, 4), 10);
        x.pay(2, 4);
        is("nor paid off", x.house(2, 4), 10);
    }

    private static void debt999AtMost() {
        about("DEBT more (999 at most)");
        OwedDays x = parish("sd9;rw0u0e0;h;h");
        toSeason(x, 4 * 110);
        is("110 years of 9", x.house(0, 4), 990);
        x.pay(1, 1);
        x.seasons(4);
        is("just 999", x.house(0, 4), 999);
        is("one less", x.house(1, 4), 998);
        x.pay(0, 9);
        x.pay(1, 8);
        x.seasons(4);
        is("0 more", x.house(0, 4), 999);
        is("1 more: just 999", x.house(1, 4), 999);
        x.seasons(4);
        is("9 more", x.house(0, 4), 999);
        is("9 more", x.house(1, 4), 999);
        is("of both", x.count(9), 1998);
        is("and it owes anew", x.house(0, 3), 9);
        x = parish("sd8;rw0u0e0;h");
        toSeason(x, 4 * 124);
        is("124 years of 8", x.house(0, 4), 992);
        x.seasons(4);
        is("8 more are held", x.house(0, 4), 999);
    }

    private static void badFrom60() {
        about("LOG: WEAR of all STRETCHES then, how many are BAD (WEAR 60 or more)");
        OwedDays x = parish("rw58u0;rw59u0;rw60u0;rw61u0;rw99u0;rw0u0;rw58u1;rw59u1;rw57u2;h");
        x.seasons(1);
        is("wear of all then", x.log(0, 0), 58 + 59 + 60 + 61 + 99 + 0 + 59 + 60 + 59);
        is("bad", x.log(0, 1), 4);
        x = parish("rw59u0;h");
        x.seasons(1);
        is("none is bad", x.log(0, 1), 0);
        x = parish("r;r;r;r;r;r;r;r;r;h");
        toSeason(x, 60);
        is("all are bad", x.log(0, 1), 9);
        is("all have 99", x.log(0, 0), 891);
    }

    private static void daysSinceTheSeason() {
        about("how many days were worked since the SEASON before");
        OwedDays x = parish("sd9;rw99u0e0;ra4b5;h;h");
        x.seasons(1);
        is("none", x.log(0, 2), 0);
        for (int kind = 0; kind < 4; kind++) {
            x.work(0, 0, kind);
            is("each kind is a day", x.count(10), kind + 1);
        }
        x.work(0, 1, 0);
        x.work(7, 0, 0);
        is("no refused one", x.count(10), 4);
        x.pay(0, 1);
        is("none that is paid off", x.count(10), 4);
        x.ditch(0);
        is("no ditch", x.count(10), 4);
        x.seasons(1);
        is("four", x.log(0, 2), 4);
        is("none since", x.count(10), 0);
        x.seasons(1);
        is("none since", x.log(0, 2), 0);
        is("four ahead of it", x.log(1, 2), 4);
        is("none at first", x.log(2, 2), 0);
        x.work(1, 0, 3);
        x.seasons(3);
        is("only in the first of several seasons", x.log(2, 2), 1);
        is("not in the next", x.log(1, 2), 0);
        x = parish("sd9;rw99;h;h;h;h;h;h");
        for (int day = 0; day < 54; day++) {
            x.work(day / 9, 0, 3);
        }
        x.seasons(1);
        is("as many as can be", x.log(0, 2), 54);
    }

    private static void latestSixtyOfTheLog() {
        about("LOG .. (the latest 60); promise 19: the latest (i 0), the one ahead of it (1) ..");
        for (int seasons = 57; seasons <= 63; seasons++) {
            OwedDays x = parish("sf0;rw0u1e0;h");
            toSeason(x, seasons);
            int held = Math.min(60, seasons);
            is("how long behind " + seasons, x.count(12), held);
            for (int i = 0; i < held; i++) {
                is("log(" + i + ") behind " + seasons, x.log(i, 0), seasons - i);
            }
            is("no older one", x.log(held, 0), NONE);
            is("no older one", x.log(held, 2), NONE);
            is("no younger one", x.log(-1, 0), NONE);
        }
        OwedDays x = parish("sf0;rw0u1e0;h");
        is("none yet", x.log(0, 0), NONE);
        is("none yet", x.count(12), 0);
        x.seasons(1);
        is("one", x.log(0, 0), 1);
        is("no second", x.log(1, 0), NONE);
        is("no such what", x.log(0, 3), NONE);
        is("no such what", x.log(0, -1), NONE);
        is("no such i", x.log(Integer.MAX_VALUE, 0), NONE);
        is("no such i", x.log(Integer.MIN_VALUE, 0), NONE);
        is("no such what", x.log(0, Integer.MAX_VALUE), NONE);
        is("no such what", x.log(0, Integer.MIN_VALUE), NONE);
    }

    private static void logIsUndone() {
        about("UNDONE one by one (LOG, too)");
        for (int seasons : new int[] {1, 40, 59, 60, 61, 99, 100, 101, 139, 140, 141, 200, 240}) {
            logIsUndoneTo(seasons, 0);
            // The latest forty acts are seasons, so that as much of the log as can be comes back.
            logIsUndoneTo(seasons, 40);
        }
    }

    /** A day worked in each first season of a year marks the log, but in the bare seasons at the end. */
    private static void logIsUndoneTo(int seasons, int bare) {
        OwedDays x = parish("sd1f0;rw0u0e0;h");
        for (int season = 0; season < seasons; season++) {
            if (season % 4 == 0 && season < seasons - bare) {
                x.work(0, 0, 3);
            }
            x.seasons(1);
        }
        int behind = seasons;
        while (x.undo() != NONE) {
            behind = x.count(5);
            is("how long behind " + behind + " of " + seasons, x.count(12), Math.min(60, behind));
        }
        int held = Math.min(60, behind);
        for (int i = 0; i < held; i++) {
            int season = behind - 1 - i;
            int days = season % 4 == 0 && season < seasons - bare ? 1 : 0;
            is("log(" + i + ") behind " + behind + " of " + seasons, x.log(i, 2), days);
        }
        is("no older one", x.log(held, 2), NONE);
        if (bare == 40 && seasons >= 40) {
            is("forty seasons undone", behind, seasons - 40);
        }
    }

    private static void yearsOneToSixty() {
        about("YEARS by a seed: n (1 .. 60) SEASONS");
        OwedDays x = parish("r;h");
        is("0", x.years(0, 1), NONE);
        is("61", x.years(61, 1), NONE);
        is("-1", x.years(-1, 1), NONE);
        is("the greatest", x.years(Integer.MAX_VALUE, 1), NONE);
        is("the least", x.years(Integer.MIN_VALUE, 1), NONE);
        is("none went by", x.count(5), 0);
        is("nobody worked", x.count(8), 6);
        is("1", x.years(1, 1), 1);
        is("60", x.years(60, 1), 61);
        is("no parish", new OwedDays().years(1, 1), NONE);
    }

    /** The draws of YEARS by numbers without bounds, cut to 64 bits each time. */
    private static final class Draws {
        private static final BigInteger ROUND = BigInteger.ONE.shiftLeft(64);
        private BigInteger x;

        Draws(long seed) {
            x = new BigInteger(Long.toUnsignedString(seed));
        }

        int below(int m) {
            x = x.multiply(new BigInteger("6364136223846793005")).add(new BigInteger("1442695040888963407")).mod(ROUND);
            return x.shiftRight(33).mod(BigInteger.valueOf(m)).intValue();
        }
    }

    private static void zealOfYears() {
        about("a draw of 10: below ZEAL KIND 0, else a draw of 2: 0 KIND 1, 1 KIND 3");
        for (int zeal = 0; zeal <= 9; zeal++) {
            for (int seed = 0; seed < 25; seed++) {
                OwedDays x = parish("rw99u0;hz" + zeal, "y:20");
                Draws draws = new Draws(seed);
                draws.below(1);
                int does = draws.below(10) < zeal ? 20 : draws.below(2) == 0 ? 10 : 0;
                x.years(1, seed);
                is("zeal " + zeal + ", seed " + seed, x.stretch(0, 2), 99 - does);
                is("a day, also a feigned one", x.log(0, 2), 1);
            }
        }
    }

    private static void drawsGoRound() {
        about("x .. (64 bits, going round); a draw of m: (x shifted right by 33, without sign) modulo m");
        long[] seeds = {0, 1, 2, -1, Long.MAX_VALUE, Long.MIN_VALUE, Long.MIN_VALUE + 1, 1L << 33, (1L << 33) - 1, 4294967295L, 4294967296L,
            -4294967296L, 1234567890123456789L, -987654321987654321L};
        for (long seed : seeds) {
            for (int stretches = 1; stretches <= 9; stretches++) {
                OwedDays x = parish("sd9;" + "rw99u0;".repeat(stretches) + "hz9;hz0;hz5", "y:4");
                int[] wear = new int[stretches];
                java.util.Arrays.fill(wear, 99);
                Draws draws = new Draws(seed);
                int[] zeals = {9, 0, 5};
                for (int season = 0; season < 3; season++) {
                    for (int zeal : zeals) {
                        int at = draws.below(stretches);
                        wear[at] -= draws.below(10) < zeal ? 4 : draws.below(2) == 0 ? 2 : 0;
                    }
                }
                is("three seasons", x.years(3, seed), 3);
                for (int s = 0; s < stretches; s++) {
                    is("stretch " + s + " of " + stretches + " by seed " + seed, x.stretch(s, 2), wear[s]);
                }
            }
        }
    }

    private static void yearsWithoutStatus() {
        about("it WORKS there, if it can come there. No STATUS");
        OwedDays x = parish("rw50u0;hc5z9;hz9");
        x.years(3, 42);
        is("who can't come owes all", x.house(0, 3), 6);
        is("the other worked", x.house(1, 3), 3);
        is("one day a season", x.log(0, 2), 1);
        x.years(0, 1);
        x.years(61, 1);
        statusIs(x, 0, 0, 0, 0, 0);
        x = parish("sd1;rw50u0;h");
        x.years(3, 42);
        is("only one that it owes", x.log(1, 2) + x.log(0, 2), 0);
        is("in the first season", x.log(2, 2), 1);
        is("none is below 0", x.house(0, 3), 0);
        x.years(1, 42);
        is("anew in spring", x.house(0, 3), 1);
        is("no debt", x.house(0, 4), 0);
        OwedDays none = new OwedDays();
        none.years(1, 1);
        none.years(0, 1);
        statusIs(none, 0, 0, 0, 0, 0);
    }

    private static void yearsAreOneActEach() {
        about("Each SEASON with what is ahead of it is one ACT");
        OwedDays x = parish("sd9;rw99;ra1b2;h;h;h;h;h;h");
        String[] at = new String[6];
        at[0] = Probe.now(x);
        for (int season = 1; season < 6; season++) {
            x.years(1, 1000 + season);
            at[season] = Probe.now(x);
            is("acts", x.count(13), season);
        }
        for (int season = 4; season >= 0; season--) {
            is("undone", x.undo(), season);
            is("with its days, season " + season, Probe.now(x), at[season]);
        }
        x.years(60, 3);
        is("the latest forty", x.count(13), 40);
    }

    private static void imageKeeps() {
        about("An IMAGE keeps WEAR, WET, what is owed, DEBT, the BOX, the SEASON, days worked, the LOG; BACK: they are so again");
        OwedDays x = parish("sp5d3;rw50e4;ra1b2e8;hq5;h");
        x.work(0, 0, 2);
        x.pay(1, 2);
        x.seasons(5);
        x.ditch(0);
        x.work(0, 0, 0);
        is("the season", x.image(), 5);
        String kept = Probe.now(x);
        x.work(1, 1, 0);
        x.pay(0, 1);
        x.ditch(0);
        x.years(60, 8);
        x.seasons(60);
        is("the season again", x.back(), 5);
        is("all as it was", Probe.now(x), kept);
        x.seasons(60);
        is("once more", x.back(), 5);
        is("all as it was", Probe.now(x), kept);
        x = parish("sf0;rw0u1e0;h");
        toSeason(x, 99);
        x.image();
        toSeason(x, 240);
        x.back();
        is("a full log", x.count(12), 60);
        is("its latest", x.log(0, 2), 0);
        x = parish("sd1f0;rw0u0e0;h");
        for (int season = 0; season < 80; season++) {
            if (season % 4 == 0) {
                x.work(0, 0, 3);
            }
            x.seasons(1);
        }
        x.image();
        x.seasons(60);
        x.seasons(60);
        x.back();
        for (int i = 0; i < 60; i++) {
            is("log(" + i + ") again", x.log(i, 2), (79 - i) % 4 == 0 ? 1 : 0);
        }
    }

    private static void backForgetsActs() {
        about("BACK .. (no ACT can be UNDONE then)");
        OwedDays x = parish("r;h");
        x.work(0, 0, 0);
        x.image();
        is("an image forgets none", x.count(13), 1);
        is("and one can be undone", x.undo(), 0);
        x.work(0, 0, 0);
        x.work(0, 0, 0);
        x.back();
        is("none can be undone", x.count(13), 0);
        is("none", x.undo(), NONE);
        is("nothing changed by that", x.count(8), 5);
        x.work(0, 0, 0);
        is("what is done behind it can", x.undo(), 0);
        is("but no more", x.undo(), NONE);
        is("owed as in the image", x.count(8), 5);
        is("back to itself", x.back(), 0);
    }

    private static void imageInsteadOfTheOneAhead() {
        about("promise 40: An IMAGE (instead of the one ahead): the SEASON. NONE: no PARISH");
        is("no parish", new OwedDays().image(), NONE);
        OwedDays x = parish("r;h");
        is("at first", x.image(), 0);
        x.seasons(9);
        is("then", x.image(), 9);
        x.seasons(1);
        is("the latter", x.back(), 9);
        toSeason(x, 3999);
        is("in the last season", x.image(), 3999);
        x.undo();
        is("and back", x.back(), 3999);
    }

    private static void imageOfThisParish() {
        about("promise 41: NONE: no IMAGE of this PARISH");
        is("no parish", new OwedDays().back(), NONE);
        OwedDays x = parish("r;h");
        is("no image yet", x.back(), NONE);
        x.image();
        x.seasons(2);
        tell(x, "r;;h");
        is("no other parish", x.text(0), NONE);
        is("still of this one", x.back(), 0);
        x.end(0);
        tell(x, "r;h");
        x.text(0);
        is("of another one, though told alike", x.back(), NONE);
        x.seasons(3);
        is("still none", x.back(), NONE);
        is("nothing changed by that", x.count(5), 3);
        is("nor acts", x.count(13), 3);
        tell(x, "y:1");
        x.image();
        x.text(1);
        is("a law leaves it", x.back(), 3);
    }

    private static void newParishForgets() {
        about("promise 5: (SEASON 0, all owe DAYS; all that was of another one, SEEN, too, is gone but LAWS, which holds, STATUS)");
        OwedDays x = parish("sp9d9;rw99e9;ra1b2;r;r;r;r;r;r;r;h;h;h;h;h;h", "y:5");
        x.pay(0, 9);
        x.ditch(0);
        x.work(1, 0, 0);
        x.work(9, 9, 9);
        x.seasons(60);
        x.seen(63, true);
        x.image();
        tell(x, "sd2;rw3;h");
        is("one stretch", x.text(0), 1);
        OwedDays y = new OwedDays();
        hold(y, "y:5");
        y.work(9, 9, 9);
        tell(y, "sd2;rw3;h");
        y.text(0);
        is("as in a new object with such a law", Probe.all(x), Probe.all(y));
        is("no act", Probe.acts(x), "");
        is("no image", Probe.image(x), Probe.image(y));
    }

    private static void smallerParish() {
        about("promise 5: all that was of another one is gone (nothing of more STRETCHES and HOUSES is left)");
        String big = "sd1f9p9;ra7b6w99e9u9;ra6b5w99e9u9;ra5b4w99e9u9;ra4b3w99e9u9;ra3b2w99e9u9;ra2b1w99e9u9;ra1b0w99e9u9;ra7b0w99e9u9;"
            + "ra7b1w99e9u9;hc7q9z9;hc6q9z9;hc5q9z9;hc4q9z9;hc3q9z9;hc2q9z9";
        for (String small : new String[] {"r;h", "rw60;ra1b2;h;hc2", "ra1b2w9;ra3b4;hc1;hc4;h", "rw99;ra6b7;ra7b1;hc6;h"}) {
            OwedDays x = parish(big);
            x.seasons(5);
            x.pay(5, 1);
            tell(x, small);
            x.text(0);
            OwedDays y = parish(small);
            is("all of " + small, Probe.all(x), Probe.all(y));
            is("what would be of " + small, Probe.asks(x), Probe.asks(y));
            OwedDays z = parish(big);
            tell(z, small);
            z.text(0);
            z.pay(0, 3);
            z.ditch(0);
            z.years(9, 9);
            OwedDays fresh = parish(small);
            fresh.pay(0, 3);
            fresh.ditch(0);
            fresh.years(9, 9);
            is("years of " + small, Probe.now(z), Probe.now(fresh));
        }
    }

    /** Nine STRETCHES, the last with PLACES of its own, and six HOUSES, no two alike. */
    private static final String FULL = "sd8f2p7;ra0b1w11e1u0;ra1b2w22e2u1;ra2b3w33e3u2;ra3b4w44e4u3;ra4b5w55e5u4;ra5b0w66e6u5;ra2b0w77e7u6;"
        + "ra3b1w88e8u7;ra6b7w10e9u8;hc0q1z9;hc1q2z8;hc2q3z7;hc6q4z6;hc4q5z5;hc7q6z4";

    /** WEAR, WET of all STRETCHES, then what is owed and DEBT of all HOUSES. */
    private static int[] changing(OwedDays x) {
        int[] now = new int[30];
        for (int s = 0; s < 9; s++) {
            now[s] = x.stretch(s, 2);
            now[9 + s] = x.stretch(s, 3);
        }
        for (int h = 0; h < 6; h++) {
            now[18 + h] = x.house(h, 3);
            now[24 + h] = x.house(h, 4);
        }
        return now;
    }

    private static void fullIs(String what, OwedDays x, int[] due) {
        is(what, java.util.Arrays.toString(changing(x)), java.util.Arrays.toString(due));
    }

    private static int[] fullAsTold() {
        int[] due = new int[30];
        int[] wear = {11, 22, 33, 44, 55, 66, 77, 88, 10};
        for (int s = 0; s < 9; s++) {
            due[s] = wear[s];
            due[9 + s] = s + 1;
        }
        java.util.Arrays.fill(due, 18, 24, 8);
        return due;
    }

    private static void fullParish() {
        about("nine STRETCHES and six HOUSES: each has its own numbers, and no ACT changes another's");
        OwedDays x = parish(FULL);
        int[] due = fullAsTold();
        fullIs("as told", x, due);
        for (int h = 0; h < 6; h++) {
            int s = h * 5 % 9;
            due[s] = Math.max(0, due[s] - 8);
            due[18 + h]--;
            is("wear of " + s, x.work(h, s, 2), due[s]);
            fullIs("house " + h + " worked at " + s, x, due);
            x.pay(h, h + 1);
            due[18 + h] -= h + 1;
            fullIs("house " + h + " paid", x, due);
        }
        is("the box", x.count(6), 7 * (6 + 21));
        ditchesOfFull();
        seasonsOfFull();
    }

    private static void seasonsOfFull() {
        OwedDays x = parish(FULL);
        int[] due = fullAsTold();
        for (int h = 0; h < 6; h++) {
            x.pay(h, h + 1);
            due[18 + h] -= h + 1;
        }
        x.seasons(3);
        for (int s = 0; s < 9; s++) {
            due[s] = Math.min(99, due[s] + 3 * s);
        }
        fullIs("three seasons", x, due);
        x.seasons(1);
        for (int s = 0; s < 9; s++) {
            due[s] = Math.min(99, due[s] + s + 2 + due[9 + s]);
        }
        for (int h = 0; h < 6; h++) {
            due[24 + h] = due[18 + h];
            due[18 + h] = 8;
        }
        fullIs("spring", x, due);
        is("debt of all", x.count(9), 48 - 21);
        is("owed by all", x.count(8), 48);
    }

    private static void ditchesOfFull() {
        OwedDays x = parish(FULL);
        int[] due = fullAsTold();
        for (int h = 0; h < 6; h++) {
            x.pay(h, 1);
            due[18 + h]--;
        }
        int[][] places = {{0, 1}, {1, 2}, {2, 3}, {3, 4}, {4, 5}, {5, 0}, {2, 0}, {3, 1}, {6, 7}};
        for (int s = 0; s < 9; s++) {
            due[9 + s]--;
            for (int other = 0; other < 9; other++) {
                boolean shares = places[other][0] == places[s][1] || places[other][1] == places[s][1];
                if (other != s && shares && due[9 + other] < 9) {
                    due[9 + other]++;
                }
            }
            is("wet of " + s, x.ditch(s), due[9 + s]);
            fullIs("ditched " + s, x, due);
        }
    }
}
