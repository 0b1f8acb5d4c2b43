import java.math.BigInteger;

/** Every promise of the document by hand: ordinary inputs, edges, wrong inputs. */
public final class PromisesTest extends Checks {
    private static final String TOWN = "sd2f1p3;rw30u4;ra1b2w50e3;ra2b3w10u9;rb2w20;hq5;hc3q2z9;hc7";

    public static void main(String[] args) {
        aNewObject();
        feed();
        end();
        faultOfParish();
        faultOfLaw();
        text();
        newParish();
        rule();
        stretch();
        house();
        law();
        worthOfLaws();
        haul();
        does();
        work();
        pay();
        ditch();
        seasons();
        lastSeason();
        years();
        status();
        undo();
        log();
        least();
        leastByLaw();
        way();
        worth();
        buys();
        game();
        rests();
        road();
        shares();
        seen();
        feigned();
        honest();
        best();
        whose();
        fails();
        odds();
        toll();
        worst();
        ends();
        cut();
        neighbours();
        image();
        back();
        count();
        tellAndExit();
    }

    private static void aNewObject() {
        about("promise 1");
        OwedDays x = new OwedDays();
        for (int what = 0; what < 14; what++) {
            is("count(" + what + ")", x.count(what), what == 4 ? NONE : 0);
        }
        is("stretch", x.stretch(0, 0), NONE);
        is("house throws", thrown(x, 0, 0), 1);
        is("rule", x.rule(0), NONE);
        is("log", x.log(0, 0), NONE);
        is("law NONE", x.law(NONE), true);
        is("law 0", x.law(0), false);
        for (int what = 0; what < 5; what++) {
            is("status", x.status(what), 0);
        }
    }

    private static void feed() {
        about("promise 2");
        OwedDays x = new OwedDays();
        is("all zero", x.feed(0, 0, 0, 0, 0), 0);
        is("zeros left out", x.feed(0x72003B00, 0, 0x00000068, 0, 0), 3);
        is("as r;h", x.fault(0), NONE);
        x.end(0);
        is("the highest first", x.feed(0, 0x68000000, 0x3B72, 0x77323B78, 0), 7);
        is("as h;rw2;x", x.fault(0), 6);
        x.end(0);
        is("bytes above 127", x.feed(0x80FFFE81, -1, -1, -1, -1), 20);
        is("are wrong", x.fault(0), 0);
        for (int i = 2; i <= 11; i++) {
            is("twenty more", x.feed(-1, -1, -1, -1, -1), 20 * i);
        }
        is("239 with zeros left out", x.feed(-1, -1, -1, -1, 0x01010100), 239);
        is("two more", x.feed(0, 0, 0, 1, 1), NONE);
        is("twenty more", x.feed(-1, -1, -1, -1, -1), NONE);
        is("nothing came", x.count(3), 239);
        is("one more", x.feed(0, 0, 0, 0, 1), 240);
        is("none more", x.feed(0, 0, 0, 0, 0), 240);
        is("one too many", x.feed(0, 0, 0, 0, 1), NONE);
        is("one too many", x.feed(1, 0, 0, 0, 0), NONE);
        for (int zero = 0; zero < 5; zero++) {
            int[] five = {-1, -1, -1, -1, -1};
            five[zero] = 0xFF00FFFF;
            x.end(222);
            is("nineteen behind 222", x.feed(five[0], five[1], five[2], five[3], five[4]), NONE);
            x.end(221);
            is("nineteen behind 221", x.feed(five[0], five[1], five[2], five[3], five[4]), 240);
        }
    }

    private static void end() {
        about("promise 3");
        OwedDays x = new OwedDays();
        is("end(0) of nothing", x.end(0), true);
        is("end(1) of nothing", x.end(1), false);
        tell(x, "r;hx");
        is("end(5)", x.end(5), false);
        is("end(-1)", x.end(-1), false);
        is("end(MIN)", x.end(Integer.MIN_VALUE), false);
        is("all stand", x.count(3), 4);
        is("end(4)", x.end(4), true);
        is("with x", x.fault(0), 3);
        is("end(3)", x.end(3), true);
        is("without x", x.fault(0), NONE);
        is("end(4) then", x.end(4), false);
        tell(x, "z1");
        is("goes on behind it", x.fault(0), NONE);
    }

    private static void wrongAt(int sort, String text, int due) {
        OwedDays x = new OwedDays();
        tell(x, text);
        is("fault(" + sort + ") of '" + text + "'", x.fault(sort), due);
        is("the tape behind fault", x.count(3), text.length());
        is("text(" + sort + ") of '" + text + "' refused", x.text(sort) == NONE, due != NONE);
        is("the tape behind text", x.count(3), due == NONE ? 0 : text.length());
    }

    private static void faultOfParish() {
        about("promise 4");
        is("no such sort", new OwedDays().fault(2), -2);
        is("no such sort", new OwedDays().fault(-1), -2);
        String[] good = {"r;h", "h;r", "s;r;h", "r;s;h", "r;h;s", " r ; h ", "rw0;h", "rw99;h", "rw09;h", "sd1f0p0;r;h",
            "sd9f9p9;r;h", "sd09;r;h", "ra7b6e9u9w99;h", "ru9b7a6;h", "hc7q9z9;r", "hq1c0z0;r",
            "r w 1 e 2;h c 3", "r;r;r;r;r;r;r;r;r;h;h;h;h;h;h;s", "ra1b0;h", "sd 9 ;r;h"};
        for (String text : good) {
            wrongAt(0, text, NONE);
        }
        wrongAt(0, "", 0);
        wrongAt(0, "   ", 3);
        wrongAt(0, "r", 1);
        wrongAt(0, "h", 1);
        wrongAt(0, "s;r ", 4);
        wrongAt(0, "s;h", 3);
        wrongAt(0, "r;", 2);
        wrongAt(0, "r;h; ", 5);
        wrongAt(0, ";r;h", 0);
        wrongAt(0, "r;;h", 2);
        wrongAt(0, "R;h", 0);
        wrongAt(0, "rh", 1);
        wrongAt(0, "r;h.", 3);
        wrongAt(0, "r1;h", 1);
        wrongAt(0, "rw", 2);
        wrongAt(0, "rw ", 3);
        wrongAt(0, "rw;h", 2);
        wrongAt(0, "rwe1;h", 2);
        wrongAt(0, "rw-1;h", 2);
        wrongAt(0, "rq1;h", 1);
        wrongAt(0, "hw1;r", 1);
        wrongAt(0, "sw1;r;h", 1);
        wrongAt(0, "rd1;h", 1);
        numbersOutOfBounds();
        tooMany();
    }

    private static void numbersOutOfBounds() {
        wrongAt(0, "sd0;r;h", 2);
        wrongAt(0, "sd00;r;h", 3);
        wrongAt(0, "sd0 5;r;h", 2);
        wrongAt(0, "sd10;r;h", 3);
        wrongAt(0, "sf10;r;h", 3);
        wrongAt(0, "sp99;r;h", 3);
        wrongAt(0, "sp10;r;h", 3);
        wrongAt(0, "sp9 9;r;h", 4);
        wrongAt(0, "ra8;h", 2);
        wrongAt(0, "ra08;h", 3);
        wrongAt(0, "rb8;h", 2);
        wrongAt(0, "rb10;h", 3);
        wrongAt(0, "re10;h", 3);
        wrongAt(0, "ru10;h", 3);
        wrongAt(0, "hc8;r", 2);
        wrongAt(0, "hq0;r", 2);
        wrongAt(0, "hq10;r", 3);
        wrongAt(0, "hz10;r", 3);
        wrongAt(0, "rw100;h", 4);
        wrongAt(0, "rw000;h", 4);
        wrongAt(0, "sd999;r;h", 4);
        wrongAt(0, "sd005;r;h", 4);
        wrongAt(0, "ra899;h", 4);
        wrongAt(0, "rw1 1;h", 4);
    }

    private static void tooMany() {
        wrongAt(0, "rw1w1;h", 3);
        wrongAt(0, "rw1e2w;h", 5);
        wrongAt(0, "hq1 q1;r", 4);
        wrongAt(0, "s;r;h;s", 6);
        wrongAt(0, "s;sd1;r;h", 2);
        wrongAt(0, "r;r;r;r;r;r;r;r;r;r;h", 18);
        wrongAt(0, "h;h;h;h;h;h;h;r", 12);
        wrongAt(0, "ra1;h", 5);
        wrongAt(0, "ra1 ;h ", 7);
        wrongAt(0, "rb0;h", 5);
        wrongAt(0, "h;ra5b5", 7);
        wrongAt(0, "h;ra5b5;r;x", 10);
        wrongAt(0, "ra1", 3);
    }

    private static void faultOfLaw() {
        about("promise 4");
        String[] good = {"y:1", "y:9999", "y:0000", "y:q", "y:q+z-h*w/e+s", "y:[q]", "y:[q+1]*2", "y:q=1?1", "y:q<1?z", "y:q>1?z",
            "y:q;y:1", "y:q=1?2;y:3;y:4", "y:(q=1)?2", "y:!q=1?2", "y:!(q=1)?2", "y:!!q=1?2", "y:q=1&z<2|h>3?1",
            "y:(q=1|z=2)&!(h=3)?1", "y:[q]=1?2", "y:q+1=z*[2-h]?3", " y : q + 1 ", " y:! ( q = 1 ) ? 2 ; y : 3 ", "y:!!!!!!q=1?1",
            "y:((((((q=1))))))?1", "y:[[[[[[q]]]]]]", "y:[[[[[[q]]]]]]+[[[[[[q]]]]]]", "y:!([q]=1)&!(!([[q]]=1))?1",
            "y:((((((q=1))))))?[[[[[[1]]]]]]", "y:!!!!!!q=1&!!!!!!q=1?1", "y:(((((q=[1])))))?1"};
        for (String text : good) {
            wrongAt(1, text, NONE);
        }
        String[] early = {"", "  ", "y", "y:", "y: ", "y:q;", "y:q+", "y:q*", "y:[q", "y:q=", "y:q=1", "y:q=1&", "y:q=1|", "y:q=1?", "y:!",
            "y:!q", "y:(", "y:(q=1", "y:(q=1)", "y:!(q=1) ", "y:q;y:q>1"};
        for (String text : early) {
            wrongAt(1, text, text.length());
        }
        wrongAt(1, "Y:1", 0);
        wrongAt(1, ";y:1", 0);
        wrongAt(1, "y;1", 1);
        wrongAt(1, "y:;y:1", 2);
        wrongAt(1, "y:1;;y:1", 4);
        wrongAt(1, "y:1y:1", 3);
        wrongAt(1, "y:a", 2);
        wrongAt(1, "y:Q", 2);
        wrongAt(1, "y:-1", 2);
        wrongAt(1, "y:q--1", 4);
        wrongAt(1, "y:q+*1", 4);
        wrongAt(1, "y:qz", 3);
        wrongAt(1, "y:q1", 3);
        wrongAt(1, "y:12345", 6);
        wrongAt(1, "y:00001", 6);
        wrongAt(1, "y:1 2", 4);
        wrongAt(1, "y:q=12345?1", 8);
        wrongAt(1, "y:q?1", 3);
        wrongAt(1, "y:q&z=1?1", 3);
        wrongAt(1, "y:q=1;y:2", 5);
        wrongAt(1, "y:q=1=2?1", 5);
        wrongAt(1, "y:q=1?z=1", 7);
        wrongAt(1, "y:q=1?2?3", 7);
        wrongAt(1, "y:[q=1]?1", 4);
        wrongAt(1, "y:[q)", 4);
        wrongAt(1, "y:[]", 3);
        wrongAt(1, "y:(q)", 4);
        wrongAt(1, "y:(q=1]", 6);
        wrongAt(1, "y:()", 3);
        wrongAt(1, "y:q=(1)?1", 4);
        wrongAt(1, "y:q+!1", 4);
        wrongAt(1, "y:q=1?(1)", 6);
        wrongAt(1, "y:q=1&?1", 6);
        wrongAt(1, "y:q=1)?1", 5);
        wrongAt(1, "y:q]", 3);
        wrongAt(1, "y:(q=1)+1?1", 7);
        wrongAt(1, "y:(q=1)=1?1", 7);
        wrongAt(1, "y:!!!!!!!q=1?1", 8);
        wrongAt(1, "y:(((((((q=1)))))))?1", 8);
        wrongAt(1, "y:[[[[[[[q]]]]]]]", 8);
        wrongAt(1, "y:!(!(!([q]=1)))?1", 8);
        wrongAt(1, "y:((((((q=[1]))))))?1", 10);
        wrongAt(1, "y:!!!!!!(q=1)?1", 8);
        wrongAt(1, "y:q=1?[[[[[[[1", 12);
    }

    private static void text() {
        about("promise 5");
        OwedDays x = new OwedDays();
        is("nothing told", x.text(0), NONE);
        tell(x, "r;r;h");
        is("sort 2", x.text(2), NONE);
        is("sort -1", x.text(-1), NONE);
        is("as a law", x.text(1), NONE);
        is("the tape stands", x.count(3), 5);
        is("two stretches", x.text(0), 2);
        is("the tape is empty", x.count(3), 0);
        for (int law = 0; law < 4; law++) {
            tell(x, "y:" + law);
            is("a law's number", x.text(1), law);
            is("the tape is empty", x.count(3), 0);
        }
        is("none holds by itself", x.count(4), NONE);
        tell(x, "y:4");
        is("a fifth law", x.text(1), NONE);
        is("the tape stands", x.count(3), 3);
        is("four laws", x.count(2), 4);
        OwedDays y = new OwedDays();
        tell(y, "y:7");
        is("a law without a parish", y.text(1), 0);
        is("still none", y.count(0), 0);
    }

    private static void newParish() {
        about("promise 5");
        OwedDays x = parish("sd5p9;rw50;rb2;h;h", "y:7");
        x.work(0, 0, 2);
        x.work(9, 0, 0);
        x.seasons(5);
        x.seen(1, true);
        x.image();
        tell(x, "r;rw");
        is("a fault", x.text(0), NONE);
        is("changes nothing", x.count(5), 5);
        tell(x, "7;h;h;h;s");
        is("another parish", x.text(0), 2);
        int[] due = {2, 3, 1, 0, 0, 0, 0, 27, 18, 0, 0, 0, 0, 0};
        for (int what = 0; what < due.length; what++) {
            is("count(" + what + ") then", x.count(what), due[what]);
        }
        is("status stands", x.status(0), 1);
        is("no image of it", x.back(), NONE);
        is("nothing to undo", x.undo(), NONE);
        is("no log", x.log(0, 0), NONE);
        is("the law holds on", x.does(2, 1, 0), 7);
        is("owed", x.house(2, 3), 6);
        is("debt", x.house(0, 4), 0);
        is("wear as told", x.stretch(1, 2), 7);
        is("wet without", x.stretch(1, 3), 2);
    }

    private static void rule() {
        about("promise 6");
        OwedDays x = parish("sp8d7f0;r;h");
        is("days", x.rule(0), 7);
        is("frost", x.rule(1), 0);
        is("price", x.rule(2), 8);
        is("3", x.rule(3), NONE);
        is("-1", x.rule(-1), NONE);
        x = parish("r;s;h");
        is("days without", x.rule(0), 6);
        is("frost without", x.rule(1), 2);
        is("price without", x.rule(2), 3);
        tell(x, "r;h;sd1");
        x.text(0);
        tell(x, "r;h");
        x.text(0);
        is("not from the parish before", x.rule(0), 6);
        is("no parish", new OwedDays().rule(0), NONE);
    }

    private static void stretch() {
        about("promise 7");
        OwedDays x = parish("h;ra4b7w88e9u1;r;sp9");
        int[][] due = {{4, 7, 88, 9, 1}, {0, 1, 20, 2, 3}};
        for (int s = 0; s < 2; s++) {
            for (int what = 0; what < 5; what++) {
                is("stretch(" + s + ", " + what + ")", x.stretch(s, what), due[s][what]);
            }
        }
        is("no such what", x.stretch(0, 5), NONE);
        is("no such what", x.stretch(0, -1), NONE);
        is("no such stretch", x.stretch(2, 0), NONE);
        is("no such stretch", x.stretch(-1, 0), NONE);
        x.pay(0, 1);
        x.ditch(0);
        x.seasons(1);
        is("wear now", x.stretch(0, 2), 89);
        is("wet now", x.stretch(0, 3), 8);
    }

    private static void house() {
        about("promise 8");
        OwedDays x = parish("sd4;r;hc7q9z0;h");
        int[][] due = {{7, 9, 0, 4, 0}, {0, 3, 5, 4, 0}};
        for (int h = 0; h < 2; h++) {
            for (int what = 0; what < 5; what++) {
                is("house(" + h + ", " + what + ")", x.house(h, what), due[h][what]);
            }
        }
        x.pay(1, 3);
        x.seasons(4);
        is("owes anew", x.house(1, 3), 4);
        is("debt of what it still owed", x.house(1, 4), 1);
        is("debt of all", x.house(0, 4), 4);
        is("no such house", thrown(x, 2, 0), 1);
        is("no such house", thrown(x, -1, 0), 1);
        is("no such what", thrown(x, 0, 5), 1);
        is("no such what", thrown(x, 0, -1), 1);
        is("no parish", thrown(new OwedDays(), 0, 0), 1);
    }

    private static void law() {
        about("promise 9");
        OwedDays x = parish("r;h");
        is("no law yet", x.law(0), false);
        tell(x, "y:11");
        x.text(1);
        tell(x, "y:22");
        x.text(1);
        is("as without", x.does(0, 0, 0), 6);
        is("law(1)", x.law(1), true);
        is("it holds", x.count(4), 1);
        is("does by it", x.does(0, 0, 0), 22);
        is("law(2)", x.law(2), false);
        is("law(-2)", x.law(-2), false);
        is("it still holds", x.count(4), 1);
        is("law(0)", x.law(0), true);
        is("does by it", x.does(0, 0, 0), 11);
        is("none", x.law(NONE), true);
        is("none holds", x.count(4), NONE);
        is("as without", x.does(0, 0, 0), 6);
    }

    private static void worthIs(String law, int due) {
        // House 1: q 4, z 9, h 1; stretch 1: w 35, e 7; in summer, s 1.
        OwedDays x = parish("ru0;ra1b2w35e7u0;h;hc0q4z9", law);
        x.seasons(1);
        is("by " + law, x.does(1, 1, 0), due);
    }

    private static void worthOfLaws() {
        about("promise 11");
        worthIs("y:q", 4);
        worthIs("y:z", 9);
        worthIs("y:h", 1);
        worthIs("y:w", 35);
        worthIs("y:e", 7);
        worthIs("y:s", 1);
        worthIs("y:99", 99);
        worthIs("y:100", 99);
        worthIs("y:1-2", 0);
        worthIs("y:10-3-2", 5);
        worthIs("y:2+3*4", 14);
        worthIs("y:[2+3]*4", 20);
        worthIs("y:80/4/2", 10);
        worthIs("y:7/2*2", 6);
        worthIs("y:50+[0-7]/2", 47);
        worthIs("y:5+7/0", 5);
        worthIs("y:50-[0-w]/0", 50);
        worthIs("y:9999*9999/9999", 99);
        worthIs("y:9999*9999-9999*99-9999", 99);
        worthIs("y:9999*9999/1000/100", 10);
        worthIs("y:[0-9999]*9999/1000/100+50", 40);
        worthIs("y:[0-9999*9999-9999*9999]/9999/10+20", 10);
        worthIs("y:9999*9999-9999*100-50", 50);
        worthIs("y:1000*1000-9999*100-50", 50);
        worthIs("y:9999*100+9999-9999*100-51", 49);
        worthIs("y:0-9999*9999-1+9999*100+150", 50);
        worthIs("y:[0-9999]*9999+9999*100+150", 50);
        worthIs("y:9999*9999+9999*9999-9999*100-50", 50);
        worthIs("y:q=4?11", 11);
        worthIs("y:q<4?11", 0);
        worthIs("y:q>4?11", 0);
        worthIs("y:q>3?11", 11);
        worthIs("y:q<5?11", 11);
        worthIs("y:q=5?11;y:12", 12);
        worthIs("y:q=4?11;y:12", 11);
        worthIs("y:q=5?11;y:z=9?12;y:13", 12);
        worthIs("y:q=5?11;y:z=8?12;y:13;y:14", 13);
        worthIs("y:q=5?11;y:z=8?12", 0);
        worthIs("y:q=4&z=8?11;y:12", 12);
        worthIs("y:q=4&z=9?11;y:12", 11);
        worthIs("y:q=5|z=9?11;y:12", 11);
        worthIs("y:q=5|z=8?11;y:12", 12);
        worthIs("y:q=4|z=8&h=5?11;y:12", 11);
        worthIs("y:q=5&z=8|h=1?11;y:12", 11);
        worthIs("y:(q=4|z=8)&h=5?11;y:12", 12);
        worthIs("y:!q=4?11;y:12", 12);
        worthIs("y:!q=5?11;y:12", 11);
        worthIs("y:!!q=4?11;y:12", 11);
        worthIs("y:!q=5&z=8?11;y:12", 12);
        worthIs("y:!(q=4&z=8)?11;y:12", 11);
        worthIs("y:[q+z]*2=26&w-e>27?11;y:12", 11);
        worthIs(" y : [ q + z ] * 2 ", 26);
    }

    private static void haul() {
        about("promise 10");
        OwedDays x = parish("ra0b1;ra1b2;ra2b3;ra0b3;ra5b6;h;hc2;hc6;hc7");
        int[][] due = {{0, 1, 1, 0, NONE}, {1, 0, 0, 1, NONE}, {NONE, NONE, NONE, NONE, 0}, {NONE, NONE, NONE, NONE, NONE}};
        for (int h = 0; h < 4; h++) {
            for (int s = 0; s < 5; s++) {
                is("haul(" + h + ", " + s + ")", x.haul(h, s), due[h][s]);
            }
        }
        x = parish("ra6b7;ra5b6;ra4b5;ra3b4;ra2b3;ra1b2;r;h");
        is("six away", x.haul(0, 0), 6);
        is("no such house", x.haul(1, 0), NONE);
        is("no such house", x.haul(-1, 0), NONE);
        is("no such stretch", x.haul(0, 7), NONE);
        is("no such stretch", x.haul(0, -1), NONE);
        is("no parish", new OwedDays().haul(0, 0), NONE);
    }

    private static void does() {
        about("promise 11");
        OwedDays x = parish(TOWN);
        is("its own", x.does(0, 0, 0), 10);
        is("less haul", x.does(0, 1, 0), 9);
        is("a boy's", x.does(0, 1, 1), 4);
        is("bought", x.does(0, 1, 2), 8);
        is("feigned", x.does(0, 1, 3), 0);
        is("bought where it can't come", x.does(2, 1, 2), 8);
        is("its own there", x.does(2, 1, 0), NONE);
        is("a boy's there", x.does(2, 1, 1), NONE);
        is("feigned there", x.does(2, 1, 3), NONE);
        is("no such kind", x.does(0, 0, 4), NONE);
        is("no such kind", x.does(0, 0, -1), NONE);
        is("no such house", x.does(3, 0, 2), NONE);
        is("no such stretch", x.does(0, 4, 2), NONE);
        x.seasons(3);
        is("in winter", x.does(0, 1, 0), 4);
        is("a boy's in winter", x.does(0, 1, 1), 2);
        is("bought in winter", x.does(0, 1, 2), 4);
        is("feigned in winter", x.does(0, 1, 3), 0);
        x = parish("ra6b7;ra5b6;ra4b5;ra3b4;ra2b3;ra1b2;r;hq1");
        is("0 at least", x.does(0, 0, 0), 0);
        x = parish("r;h", "y:1000");
        is("99 at most", x.does(0, 0, 0), 99);
        is("then half", x.does(0, 0, 1), 49);
        is("bought by no law", x.does(0, 0, 2), 8);
        x.seasons(3);
        is("then half again", x.does(0, 0, 1), 24);
        x = parish("r;h", "y:7");
        x.seasons(7);
        is("a boy's, cut twice", x.does(0, 0, 1), 1);
    }

    private static void work() {
        about("promise 12");
        OwedDays x = parish(TOWN);
        is("its own", x.work(0, 1, 0), 41);
        is("owes less", x.house(0, 3), 1);
        is("bought", x.work(2, 1, 2), 33);
        is("price in the box", x.count(6), 3);
        is("feigned", x.work(0, 0, 3), 30);
        is("days worked", x.count(10), 3);
        is("acts", x.count(13), 3);
        is("owes none", x.work(0, 0, 0), NONE);
        is("can't come", x.work(2, 0, 3), NONE);
        is("status 2", x.status(2), 2);
        is("no such kind", x.work(0, 0, 4), NONE);
        is("no such kind", x.work(1, 0, -1), NONE);
        is("status 1", x.status(1), 2);
        is("no such house, no such kind", x.work(3, 0, 4), NONE);
        is("no such house", x.work(-1, 0, 0), NONE);
        is("no such stretch", x.work(1, 4, 0), NONE);
        is("no such stretch", x.work(1, -1, 0), NONE);
        is("status 0", x.status(0), 4);
        is("nothing changed", x.count(13), 3);
        is("a boy's", x.work(1, 2, 1), 8);
        is("no less than 0", parish("rw5;h").work(0, 0, 0), 0);
        x = parish("rw90;h", "y:w/2");
        is("by wear", x.work(0, 0, 0), 45);
        is("by wear then", x.work(0, 0, 0), 23);
        x = parish("rw50u0;h");
        x.seasons(3);
        is("in winter", x.work(0, 0, 0), 47);
        is("bought in winter", x.work(0, 0, 2), 43);
    }

    private static void pay() {
        about("promise 13");
        OwedDays x = parish("sd9p4;r;h;h");
        is("two", x.pay(0, 2), 8);
        is("seven", x.pay(0, 7), 36);
        is("owes none", x.house(0, 3), 0);
        is("owes fewer", x.pay(0, 1), NONE);
        is("status 2", x.status(2), 1);
        is("none", x.pay(1, 0), NONE);
        is("ten", x.pay(1, 10), NONE);
        is("out of bounds, and owes fewer", x.pay(0, 10), NONE);
        is("status 1", x.status(1), 3);
        is("no such house", x.pay(2, 0), NONE);
        is("no such house", x.pay(-1, 1), NONE);
        is("status 0", x.status(0), 2);
        is("nine", x.pay(1, 9), 72);
        is("no day worked", x.count(10), 0);
        is("acts", x.count(13), 3);
        x = parish("sp0;r;h");
        is("at no price", x.pay(0, 6), 0);
    }

    private static void ditch() {
        about("promise 14");
        OwedDays x = parish("sp2;ra1b2e1;ra2b3e9;ra4b2e8;rb1;ra2b1e0;h");
        is("an empty box", x.ditch(0), NONE);
        is("status 3", x.status(3), 1);
        x.pay(0, 2);
        is("wet then", x.ditch(0), 0);
        is("2 from the box", x.count(6), 2);
        is("9 at most", x.stretch(1, 3), 9);
        is("shares b by its b", x.stretch(2, 3), 9);
        is("shares a alone", x.stretch(3, 3), 2);
        is("shares b by its a", x.stretch(4, 3), 1);
        is("not wet", x.ditch(0), NONE);
        is("status 3", x.status(3), 2);
        is("no such stretch", x.ditch(5), NONE);
        is("no such stretch", x.ditch(-1), NONE);
        is("status 0", x.status(0), 2);
        is("the last of the box", x.ditch(4), 0);
        is("shares b, wet as it was dry", x.stretch(0, 3), 1);
        is("the box", x.count(6), 0);
        is("acts", x.count(13), 3);
        x = parish("sp1;r;h");
        x.pay(0, 1);
        is("one in the box", x.ditch(0), NONE);
    }

    private static void seasons() {
        about("promise 15");
        OwedDays x = parish("sd3f4;rw10e5u2;ra1b2w95u1e0;h");
        is("one", x.seasons(1), 1);
        is("use", x.stretch(0, 2), 12);
        is("summer and autumn", x.seasons(2), 3);
        is("use", x.stretch(0, 2), 16);
        is("use", x.stretch(1, 2), 98);
        x.work(0, 0, 3);
        is("still owes", x.house(0, 3), 2);
        is("winter", x.seasons(1), 4);
        is("use, frost and wet", x.stretch(0, 2), 27);
        is("99 at most", x.stretch(1, 2), 99);
        is("owes anew", x.house(0, 3), 3);
        is("debt", x.house(0, 4), 2);
        is("sixty", x.seasons(60), 64);
        is("none", x.seasons(0), NONE);
        is("sixty-one", x.seasons(61), NONE);
        is("status 1", x.status(1), 2);
        is("no parish", new OwedDays().seasons(0), NONE);
        OwedDays y = new OwedDays();
        y.seasons(99);
        is("status 0 first", y.status(0), 1);
        is("not 1", y.status(1), 0);
    }

    private static void lastSeason() {
        about("promise 15");
        OwedDays x = parish("sd9;rw0u0e0;h");
        for (int i = 1; i <= 66; i++) {
            is("sixty", x.seasons(60), 60 * i);
        }
        is("debt 999 at most", x.house(0, 4), 999);
        is("beyond", x.seasons(40), NONE);
        is("status 4", x.status(4), 1);
        is("nothing went by", x.count(5), 3960);
        is("years beyond", x.years(40, 1), NONE);
        is("no status by years", x.status(4), 1);
        is("the last", x.seasons(39), 3999);
        is("one more", x.seasons(1), NONE);
        is("years then", x.years(1, 1), NONE);
        is("status 4", x.status(4), 2);
        is("it is winter", x.does(0, 0, 2), 4);
        is("undone", x.undo(), 39);
        is("once more", x.years(1, 1), 3999);
    }

    /** The draws of YEARS by numbers without bounds. */
    private static final class Draws {
        private static final BigInteger ROUND = BigInteger.ONE.shiftLeft(64);
        private BigInteger x;

        Draws(long seed) {
            x = BigInteger.valueOf(seed).mod(ROUND);
        }

        int below(int m) {
            x = x.multiply(new BigInteger("6364136223846793005")).add(new BigInteger("1442695040888963407")).mod(ROUND);
            return x.shiftRight(33).mod(BigInteger.valueOf(m)).intValue();
        }

        int kind(int zeal) {
            return below(10) < zeal ? 0 : below(2) == 0 ? 1 : 3;
        }
    }

    private static void years() {
        about("promise 16");
        for (long seed : new long[] {0, 1, -1, 7, 12345678901234L, Long.MIN_VALUE}) {
            OwedDays x = parish("rw50u0;ra1b2w60u0;ra5b6w70u0;hq9z5");
            Draws draws = new Draws(seed);
            int at = draws.below(3);
            int kind = draws.kind(5);
            boolean comes = at != 2;
            int does = !comes || kind == 3 ? 0 : (18 - at) / (kind + 1);
            is("a season", x.years(1, seed), 1);
            is("wear by seed " + seed, x.count(7), 180 - does);
            is("worked", x.log(0, 2), comes ? 1 : 0);
            is("owed", x.house(0, 3), comes ? 5 : 6);
            is("one act", x.count(13), 1);
            is("undone", x.undo(), 0);
            is("all undone", x.count(7), 180);
            is("and owed", x.house(0, 3), 6);
        }
        drawsInOrder();
        boundsOfYears();
    }

    private static void drawsInOrder() {
        for (long seed = 0; seed < 20; seed++) {
            OwedDays x = parish("sd1;rw90u0;rw90u0;hq1;hc2;hq9;hq8z0");
            x.pay(0, 1);
            // House 0 owes no day and draws nothing; house 1 draws, though it can't come there.
            Draws draws = new Draws(seed);
            int[] wear = {90, 90};
            draws.below(2);
            draws.kind(5);
            for (int full = 18; full >= 16; full -= 2) {
                int at = draws.below(2);
                int kind = draws.kind(full == 18 ? 5 : 0);
                wear[at] -= kind == 3 ? 0 : full / (kind + 1);
            }
            x.years(1, seed);
            is("stretch 0 by seed " + seed, x.stretch(0, 2), wear[0]);
            is("stretch 1 by seed " + seed, x.stretch(1, 2), wear[1]);
        }
    }

    private static void boundsOfYears() {
        OwedDays x = parish("sd1;rw50u0;hq1z9;hc2;hq2z9");
        x.pay(0, 1);
        is("three seasons", x.years(3, 5), 3);
        is("house 0 owed none", x.house(0, 3), 0);
        is("house 1 still owes", x.house(1, 3), 1);
        is("house 2 worked", x.house(2, 3), 0);
        is("acts", x.count(13), 4);
        is("log", x.count(12), 3);
        is("none", x.years(0, 1), NONE);
        is("sixty-one", x.years(61, 1), NONE);
        is("sixty", x.years(60, 1), 63);
        is("no parish", new OwedDays().years(1, 1), NONE);
        for (int what = 0; what < 5; what++) {
            is("no status", x.status(what), 0);
        }
        x = parish("sd9;rw99u0;hq1z0;hq1z0;hq1z0");
        x.years(3, 99);
        is("each house a day a season", x.count(8), 18);
        x = parish("sd9;rw99u0;hq9z9", "y:1");
        x.years(3, 4);
        is("days by the law that holds", x.count(7) >= 96, true);
    }

    private static void status() {
        about("promise 17");
        OwedDays x = parish("r;h");
        x.work(1, 0, 0);
        x.pay(0, 10);
        x.pay(0, 7);
        x.ditch(0);
        is("0", x.status(0), 1);
        is("1", x.status(1), 1);
        is("2", x.status(2), 1);
        is("3", x.status(3), 1);
        is("4", x.status(4), 0);
        is("5", x.status(5), NONE);
        is("-1", x.status(-1), NONE);
        x.work(0, 0, 0);
        x.work(7, 7, 7);
        x.undo();
        x.undo();
        x.image();
        x.back();
        is("not undone, nor brought back", x.status(0), 2);
        x.haul(9, 9);
        x.does(9, 9, 9);
        x.least(9, 9, 9);
        x.text(7);
        is("only acts are counted", x.status(0), 2);
    }

    private static void undo() {
        about("promise 18");
        OwedDays x = parish("sp5;rw50e4u9;ra1b2e8;hq5;h");
        is("none", x.undo(), NONE);
        x.work(0, 0, 2);
        x.pay(1, 4);
        x.ditch(0);
        x.seasons(4);
        is("acts", x.count(13), 7);
        is("winter undone", x.undo(), 6);
        is("season", x.count(5), 3);
        is("no debt", x.count(9), 0);
        is("owed", x.count(8), 7);
        is("log", x.count(12), 3);
        is("log", x.log(2, 2), 1);
        x.undo();
        x.undo();
        is("the first season undone", x.undo(), 3);
        is("log", x.count(12), 0);
        is("days worked again", x.count(10), 1);
        is("ditch undone", x.undo(), 2);
        is("wet", x.stretch(0, 3), 4);
        is("wet of the other", x.stretch(1, 3), 8);
        is("box", x.count(6), 25);
        is("pay undone", x.undo(), 1);
        is("box", x.count(6), 5);
        is("work undone", x.undo(), 0);
        is("wear", x.stretch(0, 2), 50);
        is("box", x.count(6), 0);
        is("owed", x.count(8), 12);
        is("days worked", x.count(10), 0);
        is("none", x.undo(), NONE);
        x.seasons(60);
        is("the latest forty", x.count(13), 40);
        for (int i = 39; i >= 0; i--) {
            is("one by one", x.undo(), i);
        }
        is("none more", x.undo(), NONE);
        is("twenty stand", x.count(5), 20);
        is("log of twenty", x.count(12), 20);
    }

    private static void log() {
        about("promise 19");
        OwedDays x = parish("sf0;rw58u1e0;ra1b2w60u1e0;hq1");
        x.work(0, 0, 3);
        x.work(0, 0, 3);
        x.seasons(1);
        x.work(0, 0, 3);
        x.seasons(2);
        int[][] due = {{124, 2, 0}, {122, 2, 1}, {120, 1, 2}};
        for (int i = 0; i < 3; i++) {
            for (int what = 0; what < 3; what++) {
                is("log(" + i + ", " + what + ")", x.log(i, what), due[i][what]);
            }
        }
        is("no such", x.log(3, 0), NONE);
        is("no such", x.log(-1, 0), NONE);
        is("no such what", x.log(0, 3), NONE);
        is("no such what", x.log(0, -1), NONE);
        x = parish("sf0;rw0u1e0;h");
        x.seasons(50);
        x.seasons(30);
        is("the latest 60", x.count(12), 60);
        is("latest", x.log(0, 0), 80);
        is("oldest", x.log(59, 0), 21);
        is("no older", x.log(60, 0), NONE);
        for (int i = 0; i < 40; i++) {
            x.undo();
        }
        is("what had fallen out is there again", x.count(12), 40);
        is("latest", x.log(0, 0), 40);
        is("oldest", x.log(39, 0), 1);
        x.seasons(60);
        x.seasons(40);
        for (int i = 0; i < 30; i++) {
            x.undo();
        }
        is("still 60", x.count(12), 60);
        is("oldest of them", x.log(59, 0), 51);
        x.seasons(25);
        is("goes on behind", x.log(0, 0), 99);
        is("and has them", x.log(25, 0), 99);
        is("and older ones", x.log(59, 0), 76);
    }

    private static void least() {
        about("promise 20");
        OwedDays x = parish(TOWN);
        is("two days", x.least(1, 35, 0), 2);
        is("by 0 and 0", x.least(1, 35, 1), 0);
        is("four days", x.least(1, 26, 0), 4);
        is("by 0, 0, 1, 1", x.least(1, 26, 1), 11);
        is("not by what they owe", x.least(1, 25, 0), NONE);
        is("nor a row", x.least(1, 25, 1), NONE);
        is("no day", x.least(1, 50, 0), 0);
        is("no row", x.least(1, 99, 1), 0);
        is("one day by 0", x.least(1, 49, 0), 1);
        is("n 100", x.least(1, 100, 0), NONE);
        is("n -1", x.least(1, -1, 0), NONE);
        is("what 2", x.least(1, 50, 2), NONE);
        is("what -1", x.least(1, 50, -1), NONE);
        is("no such stretch", x.least(4, 50, 0), NONE);
        is("no such stretch", x.least(-1, 50, 0), NONE);
        x.work(0, 1, 0);
        is("by what is owed now", x.least(1, 30, 1), 1);
        is("by what is owed now", x.least(1, 26, 1), 11);
        x = parish("sd9;rw72;hq6;h");
        is("six days of 12", x.least(0, 0, 0), 6);
        is("all by house 0", x.least(0, 0, 1), 0);
        x = parish("sd9;rw73;hq6;h");
        is("seven are too many", x.least(0, 0, 0), NONE);
        is("one left", x.least(0, 1, 0), 6);
        x = parish("sd9;rw12;hq1;hq2;hq3;hq3");
        is("two of 6", x.least(0, 0, 0), 2);
        is("the least row", x.least(0, 0, 1), 22);
        is("two to 2: 4 and 6", x.least(0, 2, 1), 12);
        x.seasons(3);
        // Wear 21 in winter, days of 1, 2, 3 and 3.
        is("in winter", x.least(0, 9, 0), 4);
        is("in winter, the least row", x.least(0, 10, 1), 1222);
        x = parish("rw20;hc5;hc6q9");
        is("none can come", x.least(0, 0, 0), NONE);
    }

    private static void leastByLaw() {
        about("promise 20");
        // House 0 halves what there is, house 1 takes 20 off above 40: who comes first matters.
        OwedDays x = parish("sd2;rw80;hq1;hq2", "y:q=1?w/2;y:w>40?20");
        is("to 20", x.least(0, 20, 0), 2);
        is("by 0 twice", x.least(0, 20, 1), 0);
        is("to 15", x.least(0, 15, 0), 3);
        is("1, 0, 0", x.least(0, 15, 1), 100);
        is("to 10: 80 60 40 20 10", x.least(0, 10, 0), 4);
        is("1, 1, 0, 0", x.least(0, 10, 1), 1100);
        is("to 9", x.least(0, 9, 0), NONE);
        x = parish("sd1;rw80;hq1;hq2", "y:q=1?w/2;y:w>40?20");
        is("to 30: 80 60 30", x.least(0, 30, 0), 2);
        is("1, 0", x.least(0, 30, 1), 10);
    }

    private static void way() {
        about("promise 21");
        OwedDays x = parish(TOWN);
        is("by wear, not by steps", x.way(3, 0, 0), 30);
        is("stretches", x.way(3, 0, 1), 12);
        is("the other way round", x.way(0, 3, 1), 12);
        is("to itself", x.way(5, 5, 0), 0);
        is("no stretch", x.way(5, 5, 1), 0);
        is("no way", x.way(0, 7, 0), NONE);
        is("no such place", x.way(0, 8, 0), NONE);
        is("no such place", x.way(-1, 0, 0), NONE);
        is("no such place", x.way(8, 8, 0), NONE);
        is("no such place", x.way(8, 0, 0), NONE);
        is("no such place", x.way(8, 0, 1), NONE);
        is("no such place", x.way(0, -1, 0), NONE);
        is("no such place", x.way(-1, -1, 0), NONE);
        is("no such what", x.way(0, 1, 2), NONE);
        is("no such what", x.way(0, 1, -1), NONE);
        is("no parish", new OwedDays().way(0, 0, 0), NONE);
        x = parish("ra0b3w30;ra0b1w10;ra1b2w10;ra2b3w10;h");
        is("alike in wear", x.way(0, 3, 0), 30);
        is("the least bits", x.way(0, 3, 1), 1);
        x = parish("ra0b1w10;ra1b2w10;ra2b3w10;ra0b3w30;h");
        is("the least bits, though more stretches", x.way(0, 3, 1), 7);
        x = parish("ra0b1w5;ra0b1w4;ra1b2w0;ra1b2w0;h");
        is("beside each other", x.way(0, 2, 0), 4);
        is("the one with less wear, the lower one", x.way(0, 2, 1), 6);
        x = parish("ra0b1w99;ra1b2w99;ra2b3w99;ra3b4w99;ra4b5w99;ra5b6w99;ra6b7w99;h");
        is("the longest", x.way(7, 0, 0), 693);
        is("all of it", x.way(7, 0, 1), 127);
    }

    private static void worth() {
        about("promise 22");
        OwedDays x = parish(TOWN);
        is("house 0", x.worth(0), 0);
        is("house 1", x.worth(1), 2);
        is("comes nowhere", x.worth(2), NONE);
        is("no such house", x.worth(3), NONE);
        is("no such house", x.worth(-1), NONE);
        x = parish("ra4b5w90;rw10;ra1b2w30;ra2b3w30;h", "y:w");
        is("of those it comes to, by law", x.worth(0), 2);
        x = parish("ra4b5;r;r;h", "y:0");
        is("nothing anywhere", x.worth(0), 1);
    }

    private static void buys() {
        about("promise 23");
        is("no parish", new OwedDays().buys(), NONE);
        is("less than 8, and who comes nowhere", parish(TOWN).buys(), 6);
        OwedDays x = parish("r;hq4;hq3;hq5;hc1q3;hc3q9");
        is("just 8 does not buy", x.buys(), 2 + 8 + 16);
        x.seasons(3);
        is("in winter alike", x.buys(), 2 + 8 + 16);
        x = parish("rw3;ra1b2w9;h;hc2", "y:w");
        is("at one it does more", x.buys(), 0);
        x = parish("rw3;ra1b2w7;h;hc2", "y:w");
        is("at none", x.buys(), 3);
    }

    private static void game() {
        about("promise 24");
        OwedDays x = parish(TOWN);
        is("both their own, the one", x.game(0, 1, 2, 0, 0, 0), 2);
        is("both their own, the other", x.game(0, 1, 2, 0, 0, 1), 2);
        is("the other feigns, the one", x.game(0, 1, 2, 0, 3, 0), 0);
        is("the other feigns, the other", x.game(0, 1, 2, 0, 3, 1), 4);
        is("a boy's", x.game(0, 1, 2, 1, 0, 0), 2);
        is("and its own", x.game(0, 1, 2, 1, 0, 1), 0);
        is("both feign", x.game(0, 1, 2, 3, 3, 1), 0);
        is("less than nothing", x.game(1, 0, 2, 0, 3, 0), -2);
        is("bought", x.game(0, 1, 2, 2, 0, 0), HIDDEN);
        is("bought", x.game(0, 1, 2, 0, 2, 0), HIDDEN);
        is("no such kind", x.game(0, 1, 2, 4, 0, 0), HIDDEN);
        is("no such kind", x.game(0, 1, 2, 0, -1, 0), HIDDEN);
        is("alike", x.game(1, 1, 2, 0, 0, 0), HIDDEN);
        is("can't come", x.game(0, 2, 2, 0, 0, 0), HIDDEN);
        is("can't come", x.game(2, 0, 2, 0, 0, 0), HIDDEN);
        is("no such house", x.game(3, 0, 2, 0, 0, 0), HIDDEN);
        is("no such house", x.game(0, -1, 2, 0, 0, 0), HIDDEN);
        is("no such stretch", x.game(0, 1, 4, 0, 0, 0), HIDDEN);
        is("no such stretch", x.game(0, 1, -1, 0, 0, 0), HIDDEN);
        is("no such what", x.game(0, 1, 2, 0, 0, 2), HIDDEN);
        is("no such what", x.game(0, 1, 2, 0, 0, -1), HIDDEN);
        x = parish("rw40;h;h", "y:w/2");
        is("both by the wear of now", x.game(0, 1, 0, 0, 0, 1), 16);
        x.seasons(3);
        // Wear 49: 24, in winter 12.
        is("in winter", x.game(0, 1, 0, 0, 0, 0), 8);
    }

    private static void rests() {
        about("promise 25");
        OwedDays x = parish(TOWN);
        is("how many", x.rests(0, 1, 2, NONE), 3);
        is("first", x.rests(0, 1, 2, 0), 3);
        is("second", x.rests(0, 1, 2, 1), 13);
        is("third", x.rests(0, 1, 2, 2), 33);
        is("no fourth", x.rests(0, 1, 2, 3), NONE);
        is("-2", x.rests(0, 1, 2, -2), NONE);
        is("alike", x.rests(1, 1, 2, NONE), NONE);
        is("can't come", x.rests(0, 2, 2, NONE), NONE);
        is("no such house", x.rests(0, 3, 2, NONE), NONE);
        is("no such stretch", x.rests(0, 1, 4, NONE), NONE);
        x = parish("r;hq9;hq9");
        // 18 each: its own day gives 9 less 4, a boy's 4 (of 9) less 2 or 5 less 2, feigned 0.
        is("strong ones work", x.rests(0, 1, 0, NONE), 1);
        is("both", x.rests(0, 1, 0, 0), 0);
        x = parish("r;hq1;hq1");
        is("weak ones rest", x.rests(0, 1, 0, NONE), 1);
        is("both", x.rests(0, 1, 0, 0), 33);
    }

    private static void road() {
        about("promise 26");
        OwedDays x = parish(TOWN);
        is("at 0", x.road(0), 0);
        is("from 3", x.road(1), 12);
        is("no way", x.road(2), 0);
        is("no such house", x.road(3), NONE);
        is("no such house", x.road(-1), NONE);
        x.work(0, 0, 0);
        x.work(0, 1, 0);
        is("by wear now", x.road(1), 12);
        is("no parish", new OwedDays().road(0), NONE);
    }

    private static void shares() {
        about("promise 27");
        OwedDays x = parish("ru5;ra1b2u2;ra5b6u9;hc1;hc2;h;hc5");
        is("5 of 12", x.shares(0, 100), 41);
        is("7 of 12", x.shares(1, 100), 58);
        is("none", x.shares(2, 100), 0);
        is("no road", x.shares(3, 999), 0);
        is("most", x.shares(1, 999), 582);
        is("of nothing", x.shares(1, 0), 0);
        is("1000", x.shares(1, 1000), NONE);
        is("-1", x.shares(1, -1), NONE);
        is("no such house", x.shares(4, 1), NONE);
        is("no such house", x.shares(-1, 1), NONE);
        is("no use at all", parish("ru0;hc1").shares(0, 999), 0);
    }

    private static void seen() {
        about("promise 28");
        is("no parish", new OwedDays().seen(1, true), NONE);
        OwedDays x = parish("r;h;h;h");
        is("none", x.seen(0, true), NONE);
        is("eight", x.seen(8, true), NONE);
        is("negative", x.seen(-1, true), NONE);
        for (int i = 1; i <= 10; i++) {
            is("seen", x.seen(7, true), i);
        }
        is("an eleventh", x.seen(1, true), NONE);
        is("ten", x.count(11), 10);
        x.undo();
        is("no act", x.count(11), 10);
    }

    private static void feigned() {
        about("promise 29");
        OwedDays x = parish("r;h;h;h;h");
        is("no parish", new OwedDays().feigned(0, NONE), NONE);
        int[] all = {1, 4, 6, 4};
        for (int k = 0; k < 4; k++) {
            is("nothing seen: all of " + k, x.feigned(k, NONE), all[k]);
        }
        is("four", x.feigned(4, NONE), NONE);
        is("-1", x.feigned(-1, NONE), NONE);
        is("i -2", x.feigned(1, -2), NONE);
        x.seen(6, false);
        is("one did not feign", x.feigned(1, NONE), 0);
        is("none so", x.feigned(1, 0), NONE);
        is("both feigned", x.feigned(2, NONE), 1);
        is("those", x.feigned(2, 0), 6);
        is("no second", x.feigned(2, 1), NONE);
        is("with one more", x.feigned(3, NONE), 2);
        is("rising", x.feigned(3, 0), 7);
        is("rising", x.feigned(3, 1), 14);
        x.seen(9, true);
        is("one of them worked", x.feigned(3, NONE), 2);
        x.seen(1, true);
        is("0 worked", x.feigned(3, NONE), 1);
        is("1, 2, 3", x.feigned(3, 0), 14);
        is("more than there are", parish("r;h;h").feigned(3, NONE), 0);
    }

    private static void honest() {
        about("promise 30");
        OwedDays x = parish("r;h;h;h;h");
        is("no parish", new OwedDays().honest(1), NONE);
        is("of none", x.honest(0), 15);
        is("any one", x.honest(1), 0);
        x.seen(6, false);
        is("two", x.honest(2), 9);
        is("three", x.honest(3), 0);
        is("nothing fits", x.honest(1), NONE);
        is("four", x.honest(4), NONE);
        is("-1", x.honest(-1), NONE);
        x.seen(1, true);
        is("three with 3", x.honest(3), 1);
    }

    private static void best() {
        about("promise 31");
        OwedDays x = parish("r;h;h;h;h");
        is("no parish", new OwedDays().best(1), NONE);
        is("all alike", x.best(2), 0);
        is("none feigned", x.best(0), 0);
        is("four", x.best(4), NONE);
        is("-1", x.best(-1), NONE);
        x.seen(6, false);
        // Fits for 3: {0,1,2}, {1,2,3}: houses 0 and 3 halve them, 1 and 2 are in both.
        is("the lower that halves", x.best(3), 0);
        is("nothing fits", x.best(1), NONE);
        x = parish("r;h;h;h;h");
        x.seen(1, false);
        // Fits for 2: {0,1}, {0,2}, {0,3}: 0 is 3 apart, the others 1.
        is("not who is sure", x.best(2), 1);
        x = parish("r;h;h;h;h");
        x.seen(1, true);
        // Fits for 2: {1,2}, {1,3}, {2,3}: 0 is 3 apart, the others 1.
        is("nor who surely did not", x.best(2), 1);
        is("three of four", x.best(3), 0);
        x = parish("r;h;h;h;h;h");
        x.seen(3, false);
        x.seen(4, true);
        // Fits for 3: {0,1,3}, {0,1,4}.
        is("of 3 and 4 the lower", x.best(3), 3);
    }

    private static void whose() {
        about("promise 32");
        OwedDays x = parish(TOWN);
        is("a boy's of 0", x.whose(0, 5), 1);
        is("a boy's of 0, 1's own", x.whose(2, 4), 3);
        is("nobody's", x.whose(2, 99), 0);
        is("e 100", x.whose(2, 100), NONE);
        is("e -1", x.whose(2, -1), NONE);
        is("no such stretch", x.whose(4, 0), NONE);
        is("no such stretch", x.whose(-1, 0), NONE);
        is("not who can't come", parish("r;hc5;hq1", "y:0").whose(0, 0), 2);
        x.seasons(3);
        is("in winter", x.whose(0, 5), 1);
        is("in winter", x.whose(0, 2), 1);
    }

    private static void fails() {
        about("promise 33");
        is("no parish", new OwedDays().fails(0), NONE);
        OwedDays x = parish(TOWN);
        is("which", x.fails(0), 2);
        is("when", x.fails(1), 10);
        is("no such what", x.fails(2), NONE);
        is("no such what", x.fails(-1), NONE);
        x = parish("rw98u0;ra1b2w99;rw99;h");
        is("has it, the lowest", x.fails(0), 1);
        is("has it", x.fails(1), 0);
        is("never", parish("sf0;ru0e0;h").fails(0), NONE);
        // One wear each winter: season 4, 8, .. 200.
        x = parish("sf1;rw49u0e0;h");
        is("in 200", x.fails(1), 200);
        is("in 200", x.fails(0), 0);
        x = parish("sf1;rw48u0e0;h");
        is("not in 200", x.fails(1), NONE);
        is("nor which", x.fails(0), NONE);
        x.seasons(3);
        // In winter now: 49 behind one season, 99 fifty winters later.
        is("in 201", x.fails(1), NONE);
        is("in 201", x.fails(0), NONE);
        x.seasons(1);
        is("in 200 again", x.fails(1), 200);
        x = parish("sf9;rw81u0e9;ra1b2w81u0e9;h");
        is("winter from now", x.fails(1), 4);
        x.seasons(3);
        is("in winter now", x.fails(1), 1);
        is("the lowest of several", x.fails(0), 0);
    }

    private static void odds() {
        about("promise 34");
        OwedDays x = parish(TOWN);
        is("half and half", x.odds(1, 2, 50), 750000000);
        is("none yet", x.odds(1, 0, 50), 0);
        is("surely", x.odds(1, 3, 100), 1000000000);
        is("not without frost", x.odds(1, 3, 0), 0);
        is("by use alone", x.odds(1, 4, 0), 1000000000);
        is("n 41", x.odds(1, 41, 50), NONE);
        is("n -1", x.odds(1, -1, 50), NONE);
        is("chance 101", x.odds(1, 1, 101), NONE);
        is("chance -1", x.odds(1, 1, -1), NONE);
        is("no such stretch", x.odds(4, 1, 1), NONE);
        is("no such stretch", x.odds(-1, 1, 1), NONE);
        x = parish("sf1;rw58u0e0;ra1b2w60u0e0;h");
        is("bad already", x.odds(1, 0, 0), 1000000000);
        // Two frosts of seven per cent: 10^9 parts, 70,000,000 with one, then 4,900,000 with two.
        is("twice", x.odds(0, 2, 7), 4900000);
        is("cut", x.odds(0, 5, 3), cutParts(5, 3));
        is("forty", x.odds(0, 40, 33), cutParts(40, 33));
    }

    /** Two frosts needed of n, each by chance, cut at each step. */
    private static long cutParts(int n, int chance) {
        long[] parts = new long[n + 1];
        parts[0] = 1000000000L;
        for (int season = 0; season < n; season++) {
            long[] next = new long[n + 1];
            for (int frosts = 0; frosts <= n; frosts++) {
                long with = parts[frosts] * chance / 100;
                next[frosts] += parts[frosts] - with;
                next[Math.min(n, frosts + 1)] += with;
            }
            parts = next;
        }
        long twoOrMore = 0;
        for (int frosts = 2; frosts <= n; frosts++) {
            twoOrMore += parts[frosts];
        }
        return twoOrMore;
    }

    private static void toll() {
        about("promise 35");
        is("no parish", new OwedDays().toll(1, 0), NONE);
        OwedDays x = parish("ru5;ra1b2u2;ra5b6u9;hc1;hc2;hc2;h;hc5");
        is("the lowest of those", x.toll(1, 0), 1);
        is("all", x.toll(1, 1), 19);
        is("nine", x.toll(9, 1), 171);
        is("0", x.toll(0, 1), NONE);
        is("10", x.toll(10, 1), NONE);
        is("no such what", x.toll(1, 2), NONE);
        is("no such what", x.toll(1, -1), NONE);
        x = parish("r;h;h");
        is("nobody pays: the lowest", x.toll(5, 0), 0);
        is("nobody pays", x.toll(5, 1), 0);
    }

    private static void worst() {
        about("promise 36");
        is("no parish", new OwedDays().worst(), NONE);
        OwedDays x = parish("rw5;rw30u0e0;rw30u0e0;rw29u2;h");
        is("the lowest of those", x.worst(), 1);
        x.seasons(1);
        is("by now", x.worst(), 3);
        is("all 0", parish("rw0;rw0;h").worst(), 0);
    }

    private static void ends() {
        about("promise 37");
        is("no parish", new OwedDays().ends(), NONE);
        is("place 3", parish(TOWN).ends(), 8);
        is("both", parish("ra6b7;h").ends(), 192);
        is("two between them", parish("ra6b7;ra7b6;h").ends(), 0);
    }

    private static void cut() {
        about("promise 38");
        is("no parish", new OwedDays().cut(), NONE);
        is("stretch 2", parish(TOWN).cut(), 4);
        is("each on a line", parish("r;ra1b2;ra2b3;h").cut(), 7);
        is("not those apart", parish("r;ra4b5;h").cut(), 1);
        is("not of two", parish("r;r;ra1b2;h").cut(), 4);
        is("nothing at 0", parish("ra4b5;h").cut(), 0);
    }

    private static void neighbours() {
        about("promise 39");
        OwedDays x = parish(TOWN);
        is("of 0", x.neighbours(0), 10);
        is("of 2", x.neighbours(2), 10);
        is("of 3", x.neighbours(3), 7);
        is("no such stretch", x.neighbours(4), NONE);
        is("no such stretch", x.neighbours(-1), NONE);
        is("beside each other", parish("r;ra1b0;ra2b3;h").neighbours(0), 2);
        is("none", parish("r;ra2b3;h").neighbours(0), 0);
    }

    private static void image() {
        about("promise 40");
        is("no parish", new OwedDays().image(), NONE);
        OwedDays x = parish(TOWN);
        is("the season", x.image(), 0);
        x.seasons(7);
        is("the season", x.image(), 7);
        is("no act", x.count(13), 7);
        x.seasons(1);
        is("instead of the one ahead", x.back(), 7);
    }

    private static void back() {
        about("promise 41");
        is("no parish", new OwedDays().back(), NONE);
        OwedDays x = parish("sp5d3;rw50e4;ra1b2e8;hq5;h");
        is("no image", x.back(), NONE);
        x.work(0, 0, 2);
        x.pay(1, 2);
        x.seasons(5);
        x.work(0, 0, 0);
        x.image();
        int[] was = new int[14];
        for (int what = 0; what < 14; what++) {
            was[what] = x.count(what);
        }
        int wear = x.stretch(0, 2);
        int oldest = x.log(4, 2);
        x.seen(1, true);
        x.ditch(0);
        x.work(1, 1, 0);
        x.pay(0, 1);
        x.seasons(60);
        x.seasons(50);
        is("back", x.back(), 5);
        for (int what = 0; what < 14; what++) {
            is("count(" + what + ")", x.count(what), what == 13 ? 0 : what == 11 ? 1 : was[what]);
        }
        is("wear", x.stretch(0, 2), wear);
        is("wet", x.stretch(0, 3), 4);
        is("wet", x.stretch(1, 3), 8);
        is("owed", x.house(0, 3), 2);
        is("debt", x.house(0, 4), 2);
        is("the log", x.log(4, 2), oldest);
        is("no older", x.log(5, 2), NONE);
        is("nothing can be undone", x.undo(), NONE);
        x.seasons(3);
        is("back once more", x.back(), 5);
        x.work(0, 0, 0);
        is("an act behind it", x.undo(), 0);
        tell(x, "r;h");
        x.text(0);
        is("not of this parish", x.back(), NONE);
    }

    private static void count() {
        about("promise 42");
        OwedDays x = parish("sd4;rw30;ra1b2w41;r;h;h", "y:5");
        tell(x, "r;");
        x.work(0, 0, 0);
        x.work(1, 1, 2);
        x.seen(3, false);
        int[] due = {3, 2, 1, 2, 0, 0, 3, 78, 6, 0, 2, 1, 0, 2};
        for (int what = 0; what < due.length; what++) {
            is("count(" + what + ")", x.count(what), due[what]);
        }
        x.seasons(4);
        int[] then = {3, 2, 1, 2, 0, 4, 3, 126, 8, 6, 0, 1, 4, 6};
        for (int what = 0; what < then.length; what++) {
            is("count(" + what + ") then", x.count(what), then[what]);
        }
        is("14", x.count(14), HIDDEN);
        is("-1", x.count(-1), HIDDEN);
        is("MAX", x.count(Integer.MAX_VALUE), HIDDEN);
    }
}
