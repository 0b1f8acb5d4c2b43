/** Five sentences that leave some room, read as their words say most plainly: see NOTES.md. */
public final class QuotedTest extends Checks {
    public static void main(String[] args) {
        boughtInWinter();
        thirdDigit();
        feignedDay();
        leastByTheWearThatItFinds();
        undoneLog();
        tellAndExit();
    }

    private static void boughtInWinter() {
        about("2 BOUGHT: 8, wherever it is, and PRICE comes into the BOX .. In winter half of that (cut) again");
        OwedDays x = parish("sp9f0;rw50u0e0;hq4;hq3;hc5");
        is("in spring", x.does(0, 0, 2), 8);
        x.seasons(3);
        is("in winter", x.does(0, 0, 2), 4);
        is("wherever it is", x.does(2, 0, 2), 4);
        is("works by half", x.work(2, 0, 2), 46);
        is("but the whole price comes", x.count(6), 9);
        is("and the whole day is no longer owed", x.house(2, 3), 5);
        is("4 is no less than 4, 3 is, and one comes to none", x.buys(), 2 + 4);
        x.seasons(1);
        is("in spring again", x.work(2, 0, 2), 38);
        is("the price once more", x.count(6), 18);
    }

    private static void thirdDigit() {
        about("a number out of bounds is wrong at its last digit, a third digit (a fifth one in a LAW) itself,"
                + " whatever stands ahead of it");
        is("sd99", faultOf(0, "sd99"), 3);
        is("sd999", faultOf(0, "sd999"), 4);
        is("sd099", faultOf(0, "sd099"), 4);
        is("sd9999", faultOf(0, "sd9999"), 4);
        is("sd99 9", faultOf(0, "sd99 9"), 3);
        is("sd9 9", faultOf(0, "sd9 9"), 4);
        is("sd0", faultOf(0, "sd0"), 2);
        is("sd0;r;h", faultOf(0, "sd0;r;h"), 2);
        is("sd01;r;h", faultOf(0, "sd01;r;h"), NONE);
        is("sd001;r;h", faultOf(0, "sd001;r;h"), 4);
        is("y:99999", faultOf(1, "y:99999"), 6);
        is("y:00000", faultOf(1, "y:00000"), 6);
        is("y:9999 9", faultOf(1, "y:9999 9"), 7);
    }

    private static void feignedDay() {
        about("a HOUSE WORKS a day of a KIND .. it owes a day less .. how many days were worked since the SEASON before");
        OwedDays x = parish("sd2;rw50;h");
        is("wear", x.work(0, 0, 3), 50);
        is("owes", x.house(0, 3), 1);
        is("days worked", x.count(10), 1);
        x.seasons(1);
        is("in the log", x.log(0, 2), 1);
        // Without ZEAL days are a boy's or feigned: how many of each is drawn, how many in all is not.
        for (int seed = 0; seed < 50; seed++) {
            x = parish("sd9;rw99u0e0;hz0;hz0");
            x.years(4, seed);
            for (int i = 0; i < 4; i++) {
                is("a day of each house by seed " + seed, x.log(i, 2), 2);
            }
            is("five are left of nine each, which are debt now", x.count(9), 10);
        }
    }

    private static void leastByTheWearThatItFinds() {
        about("LEAST .. behind which its WEAR is n or less; letters: .. w WEAR");
        OwedDays x = parish("rw80;h;h", "y:w/2");
        int[] behind = {80, 40, 20, 10, 5, 3, 2};
        for (int days = 0; days < behind.length; days++) {
            is("to " + behind[days], x.least(0, behind[days], 0), days);
            is("to one less", x.least(0, behind[days] - 1, 0), days < 6 ? days + 1 : NONE);
        }
        is("apart: wear is as it was", x.stretch(0, 2), 80);
        is("but both of a GAME by the WEAR as it is now", x.game(0, 1, 0, 0, 0, 0), 36);
        for (int days = 1; days < behind.length; days++) {
            is("worked so by hand", x.work(0, 0, 0), behind[days]);
        }
    }

    private static void undoneLog() {
        about("the latest 40 can be UNDONE one by one (LOG, too)");
        OwedDays x = parish("sd3;rw40u2;ra1b2w70;h;hc2z2");
        x.years(60, 5);
        String then = Probe.now(x);
        x.years(30, 9);
        x.seasons(10);
        for (int left = 39; left >= 0; left--) {
            is("how many still can be", x.undo(), left);
        }
        is("no more", x.undo(), NONE);
        is("all as it was, with the sixty rows of the log", Probe.now(x), then);
    }
}
