/** The boundary cases of '## Terms' and of the TAPE: one method for each sentence that names some. */
public final class TextBoundsTest extends Checks {
    private static final String DIGITS = "0123456789";
    private static final String ATOM = DIGITS + "qzhwes[ ";
    private static final String UNIT = ATOM + "!(";

    /** Clause, letter, lowest, highest, without: as the first sentence of '## Terms' tells them. */
    private static final String[] ITEMS = {"s d 1 9 6", "s f 0 9 2", "s p 0 9 3", "r a 0 7 0", "r b 0 7 1", "r w 0 99 20",
        "r e 0 9 2", "r u 0 9 3", "h c 0 7 0", "h q 1 9 3", "h z 0 9 5"};

    public static void main(String[] args) {
        oneRulesAtMost();
        nineStretchesAtMost();
        sixHousesAtMost();
        anyOrder();
        eachLetterOnce();
        boundsOfNumbers();
        thirdDigits();
        withoutItems();
        signsOfAParish();
        endsTooEarly();
        fromAPlaceToItself();
        blanks();
        fourLaws();
        oneClauseAtLeast();
        fifthDigits();
        signsOfALaw();
        sixWithinOneAnother();
        sixBesideOneAnother();
        numbersAreHeld();
        division();
        firstClauseThatHolds();
        precedence();
        tapeHolds240();
        tapeEnds();
        tapeLeavesOutZeros();
        tellAndExit();
    }

    private static void faultIs(int sort, String text, int due) {
        is("fault(" + sort + ") of '" + text + "'", faultOf(sort, text), due);
    }

    private static String times(String part, int n) {
        return part.repeat(n);
    }

    private static void oneRulesAtMost() {
        about("s (its RULES; one at most) .. a second s at it");
        faultIs(0, "r;h", NONE);
        faultIs(0, "s;r;h", NONE);
        faultIs(0, "s;s;r;h", 2);
        faultIs(0, "s;r;s;h", 4);
        faultIs(0, "r;h;s; s", 7);
        faultIs(0, "sd1;r;h;sf1", 8);
        faultIs(0, "s;s", 2);
    }

    private static void nineStretchesAtMost() {
        about("r (a STRETCH; 1 .. 9) .. without a STRETCH .. a tenth r at it");
        faultIs(0, "h", 1);
        faultIs(0, "s;h", 3);
        faultIs(0, "s;h;h;h;h;h;h", 13);
        for (int n = 1; n <= 9; n++) {
            OwedDays x = new OwedDays();
            tell(x, times("r;", n) + "h");
            is("fault of " + n, x.fault(0), NONE);
            is("text of " + n, x.text(0), n);
            is("count of " + n, x.count(0), n);
            int[] without = {0, 1, 20, 2, 3};
            for (int what = 0; what < 5; what++) {
                is("the last, " + what, x.stretch(n - 1, what), without[what]);
                is("one more, " + what, x.stretch(n, what), NONE);
            }
        }
        faultIs(0, times("r;", 9) + "r;h", 18);
        faultIs(0, "h;" + times("r;", 9) + "r", 20);
        faultIs(0, times("r;", 9) + " rw1;h", 19);
    }

    private static void sixHousesAtMost() {
        about("h (a HOUSE; 1 .. 6) .. without a HOUSE .. a seventh h at it");
        faultIs(0, "r", 1);
        faultIs(0, "s;r", 3);
        faultIs(0, "r;r;r;r;r;r;r;r;r;s", 19);
        for (int n = 1; n <= 6; n++) {
            OwedDays x = new OwedDays();
            tell(x, times("h;", n) + "r");
            is("fault of " + n, x.fault(0), NONE);
            is("text of " + n, x.text(0), 1);
            is("count of " + n, x.count(1), n);
            int[] without = {0, 3, 5, 6, 0};
            for (int what = 0; what < 5; what++) {
                is("the last, " + what, x.house(n - 1, what), without[what]);
                is("one more throws, " + what, thrown(x, n, what), 1);
            }
        }
        faultIs(0, times("h;", 6) + "h;r", 12);
        faultIs(0, "r;" + times("h;", 6) + "h", 14);
        faultIs(0, "r;" + times("h;", 6) + " hq1", 15);
    }

    private static void anyOrder() {
        about("s, r, h in any order");
        for (String text : new String[] {"sd4;rw7;hq8", "sd4;hq8;rw7", "rw7;sd4;hq8", "rw7;hq8;sd4", "hq8;sd4;rw7", "hq8;rw7;sd4"}) {
            OwedDays x = parish(text);
            is("days of " + text, x.rule(0), 4);
            is("wear of " + text, x.stretch(0, 2), 7);
            is("cart of " + text, x.house(0, 1), 8);
        }
        OwedDays x = parish("rw1;hq1;rw2;hq2;s;rw3;hq3");
        for (int i = 0; i < 3; i++) {
            is("stretches by numbers as told", x.stretch(i, 2), i + 1);
            is("houses by numbers as told", x.house(i, 1), i + 1);
        }
        x = parish("sp7f5d4;ru5e4w3b2a1;hz9q8c7");
        int[] rules = {4, 5, 7};
        int[] stretch = {1, 2, 3, 4, 5};
        int[] house = {7, 8, 9};
        for (int i = 0; i < 5; i++) {
            is("items in any order", x.stretch(0, i), stretch[i]);
            if (i < 3) {
                is("items in any order", x.rule(i), rules[i]);
                is("items in any order", x.house(0, i), house[i]);
            }
        }
    }

    private static void eachLetterOnce() {
        about("a letter, each once at most in a CLAUSE .. a letter that was there at it");
        for (String item : ITEMS) {
            String clause = item.substring(0, 1);
            String letter = item.substring(2, 3);
            faultIs(0, clause + letter + "1" + letter + "1", 3);
            faultIs(0, clause + letter + "01 " + letter + "01", 5);
            String others = "";
            for (String other : ITEMS) {
                if (other.startsWith(clause) && other.charAt(2) != letter.charAt(0)) {
                    others += other.substring(2, 3) + "2";
                }
            }
            int before = 3 + others.length();
            faultIs(0, clause + letter + "1" + others + letter + "1", before);
            faultIs(0, clause + letter + "1" + others + "x", before);
            faultIs(0, clause + letter + "1" + others, before);
        }
        faultIs(0, "ra1b2w3;ra1b2w3;hc1q2z3;hc1q2z3;sd1", NONE);
    }

    private static int shown(OwedDays x, String item) {
        int at = "d f p a b w e u c q z".indexOf(item.charAt(2)) / 2;
        return at < 3 ? x.rule(at) : at < 8 ? x.stretch(0, at - 3) : x.house(0, at - 8);
    }

    private static void boundsOfNumbers() {
        about("the bounds of each number .. a number out of bounds is wrong at its last digit");
        for (String item : ITEMS) {
            String[] parts = item.split(" ");
            int low = Integer.parseInt(parts[2]);
            int high = Integer.parseInt(parts[3]);
            for (int number = 0; number < 100; number++) {
                boolean within = number >= low && number <= high;
                if (number < 10) {
                    boundOf(item, parts[0] + parts[1] + number, number, within);
                }
                boundOf(item, parts[0] + parts[1] + (number < 10 ? "0" : "") + number, number, within);
            }
        }
    }

    private static void boundOf(String item, String clause, int number, boolean within) {
        char letter = item.charAt(2);
        // The other PLACE of a STRETCH, so that it does not lead from a PLACE to itself.
        String other = letter == 'a' ? "b" + (number == 1 ? 2 : 1) : letter == 'b' ? "a" + (number == 0 ? 2 : 0) : "";
        String rest = item.charAt(0) == 's' ? ";r;h" : item.charAt(0) == 'r' ? ";h" : ";r";
        faultIs(0, clause + other + rest, within ? NONE : clause.length() - 1);
        faultIs(0, clause + " " + other + rest, within ? NONE : clause.length() - 1);
        if (within) {
            is("what " + clause + " told", shown(parish(clause + other + rest), item), number);
        }
    }

    private static void thirdDigits() {
        about("a third digit itself, whatever stands ahead of it");
        for (String item : ITEMS) {
            String start = item.substring(0, 1) + item.substring(2, 3);
            for (String number : new String[] {"000", "001", "010", "099", "100", "123", "555", "990", "999", "1000", "99999"}) {
                faultIs(0, start + number, 4);
                faultIs(0, start + number + ";r;h", 4);
                faultIs(0, start + " " + number, 5);
            }
        }
        faultIs(0, "rw99;hc8", 7);
        faultIs(0, "rw99;hc88", 8);
        faultIs(0, "rw99;hc888", 9);
    }

    private static void withoutItems() {
        about("what stands without a number");
        for (String text : new String[] {"s;r;h", "r;h", "h;r;s"}) {
            OwedDays x = parish(text);
            for (String item : ITEMS) {
                is(item.substring(2, 3) + " of " + text, shown(x, item), Integer.parseInt(item.split(" ")[4]));
            }
        }
        OwedDays x = parish("sd1f9p9;ra7b6w99e9u9;hc7q9z9;r;h");
        is("not as the stretch ahead", x.stretch(1, 0), 0);
        is("not as the stretch ahead", x.stretch(1, 1), 1);
        is("not as the stretch ahead", x.stretch(1, 2), 20);
        is("not as the stretch ahead", x.stretch(1, 3), 2);
        is("not as the stretch ahead", x.stretch(1, 4), 3);
        is("not as the house ahead", x.house(1, 0), 0);
        is("not as the house ahead", x.house(1, 1), 3);
        is("not as the house ahead", x.house(1, 2), 5);
        tell(x, "r;h");
        x.text(0);
        for (String item : ITEMS) {
            is("not as the parish ahead: " + item, shown(x, item), Integer.parseInt(item.split(" ")[4]));
        }
    }

    /** Behind a beginning just these signs can go on; any other byte of 1 .. 255 is the FAULT. */
    private static void goesOnBy(int sort, String start, String signs) {
        for (int sign = 1; sign < 256; sign++) {
            int got = faultOf(sort, start + (char) sign);
            boolean goesOn = got == NONE || got == start.length() + 1;
            boolean isWrong = got == start.length();
            boolean may = signs.indexOf((char) sign) >= 0;
            is("sign " + sign + " behind '" + start + "' goes on", may ? goesOn : !isWrong, may);
        }
    }

    private static void signsOfAParish() {
        about("FAULT: the first byte at which no such TEXT can go on (PARISH)");
        for (String start : new String[] {"", " ", "r;", "r ; ", "r;h;", "ra1;h;"}) {
            goesOnBy(0, start, "srh ");
        }
        goesOnBy(0, "s;", "rh ");
        goesOnBy(0, "r;s;", "rh ");
        goesOnBy(0, times("r;", 9), "sh ");
        goesOnBy(0, times("h;", 6), "sr ");
        goesOnBy(0, times("h;", 6) + times("r;", 9) + "s;", " ");
        goesOnBy(0, "s", "dfp; ");
        goesOnBy(0, "r", "abweu; ");
        goesOnBy(0, "h", "cqz; ");
        goesOnBy(0, "r ", "abweu; ");
        goesOnBy(0, "rw1", DIGITS + "abeu; ");
        goesOnBy(0, "rw12", "abeu; ");
        goesOnBy(0, "rw1 ", "abeu; ");
        goesOnBy(0, "rw1a7 ", "beu; ");
        goesOnBy(0, "ra7b6w5e4u0", DIGITS + "; ");
        goesOnBy(0, "ra7b6w5e4u3", "; ");
        goesOnBy(0, "sd9f8p7", "; ");
        goesOnBy(0, "hc7q6z5", "; ");
        goesOnBy(0, "rw", DIGITS + " ");
        goesOnBy(0, "rw ", DIGITS + " ");
        goesOnBy(0, "sd", "123456789 ");
        goesOnBy(0, "sf", DIGITS + " ");
        goesOnBy(0, "ra", "01234567 ");
        goesOnBy(0, "hc", "01234567 ");
        goesOnBy(0, "hq", "123456789 ");
        goesOnBy(0, "hz", DIGITS + " ");
    }

    private static void endsTooEarly() {
        about("the length, if it ends too early, without a STRETCH or a HOUSE");
        String[] early = {"", " ", "s", "r", "h", "s;", "r;", "h; ", "r;h;", "r;h; ", "rw", "rw ", "rw1", "rw1;", "rw1;hq", "rw1;hq ",
            "sd", "sd1;", "r;s", "h;s", "h;sd1 ", times("h;", 6), times("r;", 9)};
        for (String text : early) {
            faultIs(0, text, text.length());
        }
        faultIs(0, "r;h", NONE);
        faultIs(0, "r;h ", NONE);
    }

    private static void fromAPlaceToItself() {
        about("the length .. with a STRETCH from a PLACE to itself");
        for (int place = 0; place < 8; place++) {
            for (int other = 0; other < 8; other++) {
                String text = "r;h;ra" + place + "b" + other + ";rw9";
                faultIs(0, text, place == other ? text.length() : NONE);
            }
            String aAlone = "ra" + place + ";h";
            faultIs(0, aAlone, place == 1 ? aAlone.length() : NONE);
            String bAlone = "h;rb" + place;
            faultIs(0, bAlone, place == 0 ? bAlone.length() : NONE);
        }
        faultIs(0, "ra1;h ", 6);
        faultIs(0, "ra1;h;x", 6);
        faultIs(0, "ra1;h;h;h;h;h;h;h", 16);
        faultIs(0, "ra1b1w999;h", 8);
        OwedDays x = new OwedDays();
        tell(x, "ra3b3;h");
        is("it is no parish", x.text(0), NONE);
        is("none came of it", x.count(0), 0);
    }

    private static void blanks() {
        about("Blanks (32) may stand between all signs of both, not within numbers");
        faultIs(0, "  s  d  9  f  9  ;  r  a  7  w  99  ;  h  z  9  ", NONE);
        faultIs(1, "  y  :  q  <  1234  &  !  (  z  =  1  )  |  w  >  [  e  ]  ?  5  *  s  /  2  +  h  -  1  ;  y  :  7  ", NONE);
        faultIs(0, "rw1 2;h", 4);
        faultIs(0, "rw 12;h", NONE);
        faultIs(0, "rw12 ;h", NONE);
        faultIs(0, "hc0 7;r", 4);
        faultIs(1, "y:1 2", 4);
        faultIs(1, "y:12 34", 5);
        faultIs(1, "y:q=1 2?1", 6);
        for (char sign : new char[] {9, 10, 13, 160, '_', '.'}) {
            faultIs(0, sign + "r;h", 0);
            faultIs(0, "r" + sign + ";h", 1);
            faultIs(0, "r;h" + sign, 3);
            faultIs(1, "y" + sign + ":1", 1);
            faultIs(1, "y:1" + sign, 3);
        }
        OwedDays x = parish(" r w 7 b 2 ;h q 9 ");
        is("as without blanks", x.stretch(0, 2), 7);
        is("as without blanks", x.stretch(0, 1), 2);
        is("as without blanks", x.house(0, 1), 9);
        is("as without blanks", parish("r;h", " y : 2 * [ q + 4 ] ").does(0, 0, 0), 14);
        String full = "r;h" + times(" ", 237);
        faultIs(0, full, NONE);
        String empty = times(" ", 240);
        faultIs(0, empty, 240);
        faultIs(1, empty, 240);
    }

    private static void fourLaws() {
        about("LAWS (4 at most)");
        OwedDays x = parish("r;h");
        for (int law = 0; law < 4; law++) {
            tell(x, "y:" + (10 + law));
            is("its number", x.text(1), law);
            is("how many", x.count(2), law + 1);
        }
        tell(x, "y:14");
        is("no fault of a fifth", x.fault(1), NONE);
        is("a fifth", x.text(1), NONE);
        is("still four", x.count(2), 4);
        is("its tape stands", x.count(3), 4);
        for (int law = 0; law < 4; law++) {
            is("it may hold", x.law(law), true);
            is("as told", x.does(0, 0, 0), 10 + law);
        }
        is("no fifth", x.law(4), false);
        x.end(0);
        tell(x, "r;h");
        x.text(0);
        is("four in another parish, too", x.count(2), 4);
        is("the last holds on", x.count(4), 3);
        tell(x, "y:15");
        is("no fifth in another parish", x.text(1), NONE);
    }

    private static void oneClauseAtLeast() {
        about("LAWS .. are TEXTS: CLAUSES with ; between, one at least");
        faultIs(1, "", 0);
        faultIs(1, " ", 1);
        faultIs(1, ";", 0);
        faultIs(1, "y:1", NONE);
        faultIs(1, "y:1;", 4);
        faultIs(1, "y:1;y", 5);
        faultIs(1, "y:1;y:", 6);
        faultIs(1, "y:1;;y:1", 4);
        // As many as a TAPE can have.
        faultIs(1, times("y:1;", 59) + "y:1", NONE);
        faultIs(1, times("y:1;", 60), 240);
        String none = times("y:0>1?1;", 29) + "y:0>1?99";
        is("the longest law", faultOf(1, none), NONE);
        is("none of its conditions holds", parish("r;h", none).does(0, 0, 0), 0);
        String last = times("y:0>1?1;", 29) + "y:98";
        is("the last of thirty", parish("r;h", last).does(0, 0, 0), 98);
    }

    private static void fifthDigits() {
        about("a number (1 to 4 digits) .. a fifth one in a LAW itself, whatever stands ahead of it");
        for (String number : new String[] {"0", "9", "00", "99", "000", "999", "0000", "9999"}) {
            faultIs(1, "y:" + number, NONE);
            faultIs(1, "y:" + number + "=" + number + "?" + number + "*[" + number + "]", NONE);
        }
        for (String number : new String[] {"00000", "00001", "10000", "99999", "123456", "9999999"}) {
            faultIs(1, "y:" + number, 6);
            faultIs(1, "y: " + number, 7);
            faultIs(1, "y:q+" + number, 8);
            faultIs(1, "y:q=" + number, 8);
            faultIs(1, "y:[" + number + "]", 7);
            faultIs(1, "y:(" + number, 7);
            faultIs(1, "y:1;y:" + number, 10);
        }
        is("four digits tell their number", parish("r;h", "y:9999-9900").does(0, 0, 0), 99);
        is("leading zeros tell none", parish("r;h", "y:0042").does(0, 0, 0), 42);
    }

    private static void signsOfALaw() {
        about("FAULT: the first byte at which no such TEXT can go on (LAW)");
        String reckons = "+-*/";
        goesOnBy(1, "", "y ");
        goesOnBy(1, "y:q;", "y ");
        goesOnBy(1, "y:q=1?q;", "y ");
        goesOnBy(1, "y", ": ");
        for (String start : new String[] {"y:", "y: ", "y:1;y:", "y:q=1&", "y:q=1|", "y:(", "y:!", "y:!(", "y:(q=1&", "y:(q=1|"}) {
            goesOnBy(1, start, UNIT);
        }
        for (String start : new String[] {"y:q=", "y:q<", "y:q>", "y:q=1?", "y:(q=1)?", "y:[", "y:q+", "y:q-", "y:q*", "y:q/", "y:q=1?q+",
            "y:[q+", "y:(q=", "y:(q+", "y:!q+", "y:q=1?[", "y:q=[", "y:q=1+"}) {
            goesOnBy(1, start, ATOM);
        }
        goesOnBy(1, "y:q", reckons + "=<>; ");
        goesOnBy(1, "y:[q]", reckons + "=<>; ");
        goesOnBy(1, "y:1", DIGITS + reckons + "=<>; ");
        goesOnBy(1, "y:123", DIGITS + reckons + "=<>; ");
        goesOnBy(1, "y:1234", reckons + "=<>; ");
        goesOnBy(1, "y:1 ", reckons + "=<>; ");
        goesOnBy(1, "y:q=1", DIGITS + reckons + "&|? ");
        goesOnBy(1, "y:q=z", reckons + "&|? ");
        goesOnBy(1, "y:!q=z", reckons + "&|? ");
        goesOnBy(1, "y:q=1&q=z", reckons + "&|? ");
        goesOnBy(1, "y:q=1|!q=[z]", reckons + "&|? ");
        goesOnBy(1, "y:q=1?q", reckons + "; ");
        goesOnBy(1, "y:(q=1)?1", DIGITS + reckons + "; ");
        goesOnBy(1, "y:q=1?[q]", reckons + "; ");
        goesOnBy(1, "y:(q", reckons + "=<> ");
        goesOnBy(1, "y:!q", reckons + "=<> ");
        goesOnBy(1, "y:q=1&z", reckons + "=<> ");
        goesOnBy(1, "y:(q=z", reckons + "&|) ");
        goesOnBy(1, "y:((q=z)", "&|) ");
        goesOnBy(1, "y:(q=z)", "&|? ");
        goesOnBy(1, "y:!(q=z)", "&|? ");
        goesOnBy(1, "y:[q", reckons + "] ");
        goesOnBy(1, "y:[[q]", reckons + "] ");
        goesOnBy(1, "y:q=1?[q", reckons + "] ");
        goesOnBy(1, "y:q=[z", reckons + "] ");
        goesOnBy(1, "y:((((((", DIGITS + "qzhwes ");
        goesOnBy(1, "y:!!!!!!", DIGITS + "qzhwes ");
        goesOnBy(1, "y:[[[[[[", DIGITS + "qzhwes ");
        goesOnBy(1, "y:!(!([[", DIGITS + "qzhwes ");
        goesOnBy(1, "y:(((((", UNIT);
        goesOnBy(1, "y:!!!!!", UNIT);
        goesOnBy(1, "y:[[[[[", ATOM);
    }

    /** Some of ( and ! in the order that bits tell, then some [, around a q. */
    private static String within(int units, int bits, int sums) {
        StringBuilder open = new StringBuilder("y:");
        StringBuilder close = new StringBuilder();
        for (int i = 0; i < units; i++) {
            boolean isBracket = (bits >> i & 1) == 1;
            open.append(isBracket ? '(' : '!');
            close.append(isBracket ? ")" : "");
        }
        return open + times("[", sums) + "q" + times("]", sums) + "=3" + close + "?41;y:42";
    }

    private static void sixWithinOneAnother() {
        about("At most six of ( [ ! within one another .. a seventh of ( [ ! at it");
        for (int units = 0; units <= 7; units++) {
            for (int bits = 0; bits < 1 << units; bits++) {
                if (units < 7) {
                    String six = within(units, bits, 6 - units);
                    faultIs(1, six, NONE);
                    int nots = units - Integer.bitCount(bits);
                    is("by " + six, parish("r;h", six).does(0, 0, 0), nots % 2 == 0 ? 41 : 42);
                }
                faultIs(1, within(units, bits, 7 - units), 8);
            }
        }
        faultIs(1, "y:[[[[[[[q]]]]]]]", 8);
        faultIs(1, "y:q=1?[[[[[[[q]]]]]]]", 12);
        faultIs(1, "y:q=[[[[[[[q]]]]]]]?1", 10);
        faultIs(1, "y:((((((q=[1]))))))?1", 10);
        faultIs(1, "y:((((((q=1&(q=1)))))))?1", 12);
        faultIs(1, "y:((((((q=1|!q=1))))))?1", 12);
        faultIs(1, "y:!!!!!!q=1+[1]?1", 12);
        faultIs(1, "y:[[[[[[q*[q]]]]]]]", 10);
        faultIs(1, "y:[ [ [ [ [ [ [", 14);
    }

    private static void sixBesideOneAnother() {
        about("within one another (those beside one another do not count)");
        faultIs(1, "y:[q]+[q]+[q]+[q]+[q]+[q]+[q]+[q]", NONE);
        faultIs(1, "y:!q=1&!q=1&!q=1&!q=1&!q=1&!q=1&!q=1?1", NONE);
        faultIs(1, "y:(q=1)&(q=1)&(q=1)&(q=1)&(q=1)&(q=1)&(q=1)|(q=1)?1", NONE);
        faultIs(1, "y:[[[[[[q]]]]]]*[[[[[[q]]]]]]", NONE);
        faultIs(1, "y:((((((q=1))))))|((((((q=1))))))?[[[[[[q]]]]]]", NONE);
        faultIs(1, "y:!!!!!!q=1&!!!!!!q=1?1;y:!!!!!!q=1?[[[[[[q]]]]]]", NONE);
        faultIs(1, "y:((((((q=1))))))&[[[[[[q]]]]]]=[[[[[[q]]]]]]?1", NONE);
        faultIs(1, "y:!(q=1)&!(!([[q]]=[[1]]))?1", NONE);
        is("far out and back", parish("r;h", "y:1+2*[1+2*[1+2*[1+2*[1+2*[1+1*[1]]]]]]").does(0, 0, 0), 95);
    }

    private static void worthIs(String law, int due) {
        is("by " + law, parish("r;h", law).does(0, 0, 0), due);
    }

    private static void numbersAreHeld() {
        about("Behind each sign numbers are within -1,000,000 .. 1,000,000");
        // 1,000,000 less 999,900 is 100; 101 * 9901 is 1,000,001; 999 * 1001 is 999,999.
        worthIs("y:1000*1000-9999*100-50", 50);
        worthIs("y:101*9901-9999*100-50", 50);
        worthIs("y:999*1001-9999*100-50", 49);
        worthIs("y:1000*1000+1-9999*100-50", 50);
        worthIs("y:999*1001+1-9999*100-50", 50);
        worthIs("y:999*1001+2-9999*100-50", 50);
        worthIs("y:9999*9999-9999*100-50", 50);
        worthIs("y:9999*9999+9999*9999-9999*100-50", 50);
        worthIs("y:9999*9999*9999*9999-9999*100-50", 50);
        worthIs("y:[0-1000]*1000+9999*100+150", 50);
        worthIs("y:[0-101]*9901+9999*100+150", 50);
        worthIs("y:[0-999]*1001+9999*100+150", 51);
        worthIs("y:101*[0-9901]+9999*100+150", 50);
        worthIs("y:0-1000*1000-1+9999*100+150", 50);
        worthIs("y:0-999*1001-1+9999*100+150", 50);
        worthIs("y:0-999*1001-2+9999*100+150", 50);
        worthIs("y:0-9999*9999-9999*9999+9999*100+150", 50);
        worthIs("y:[0-9999]*9999*[0-9999]-9999*100-50", 50);
        worthIs("y:0-[0-1000*1000]-9999*100-50", 50);
        worthIs("y:1-[0-1000*1000]-9999*100-50", 50);
        worthIs("y:[0-1000*1000]/[0-1]-9999*100-50", 50);
        worthIs("y:1000*1000=101*9901?7;y:8", 7);
        worthIs("y:999*1001=1000*1000?7;y:8", 8);
        worthIs("y:1000*1000+1>1000*1000?7;y:8", 8);
        worthIs("y:0-1000*1000-1<0-1000*1000?7;y:8", 8);
        worthIs("y:0-1000*1000<0-999*1001?7;y:8", 7);
    }

    private static void division() {
        about("/ cuts towards 0, by 0 gives 0");
        worthIs("y:7/2", 3);
        worthIs("y:6/2", 3);
        worthIs("y:1/2", 0);
        worthIs("y:[0-7]/2+10", 7);
        worthIs("y:7/[0-2]+10", 7);
        worthIs("y:[0-7]/[0-2]+10", 13);
        worthIs("y:[0-1]/2+10", 10);
        worthIs("y:1/9999+10", 10);
        worthIs("y:7/0+10", 10);
        worthIs("y:0/0+10", 10);
        worthIs("y:[0-7]/0+10", 10);
        worthIs("y:7/[q-q]+10", 10);
        worthIs("y:7/0*5+10", 10);
        worthIs("y:70/0/0+10", 10);
        worthIs("y:7/h+10", 10);
        worthIs("y:7/0=0?41;y:42", 41);
        worthIs("y:7/7", 1);
        worthIs("y:1000*1000/1000/1000", 1);
    }

    private static void firstClauseThatHolds() {
        about("WORTH: the SUM of the first CLAUSE whose CONDITION holds (or has none), 0 without");
        worthIs("y:11", 11);
        worthIs("y:11;y:12", 11);
        worthIs("y:q=3?11;y:q=3?12", 11);
        worthIs("y:q=2?11;y:q=3?12", 12);
        worthIs("y:q=2?11;y:12;y:q=3?13", 12);
        worthIs("y:q=2?11", 0);
        worthIs("y:q=2?11;y:q=4?12", 0);
        worthIs("y:q=2?11;y:q=4?12;y:13", 13);
        worthIs("y:q=3?0;y:13", 0);
    }

    private static void precedence() {
        about("CONDITION: TRUTHS with |, TRUTH: UNITS with &, UNIT: ! UNIT, ( CONDITION ), SUM = < > SUM");
        String[] units = {"0=1", "1=1", "2<1", "1<2", "1>2", "2>1"};
        for (int i = 0; i < 6; i++) {
            for (int j = 0; j < 6; j++) {
                for (int k = 0; k < 6; k++) {
                    String[] u = {units[i], units[j], units[k]};
                    int a = i % 2;
                    int b = j % 2;
                    int c = k % 2;
                    holdsIf(u[0] + "|" + u[1] + "&" + u[2], (a | b & c) == 1);
                    holdsIf(u[0] + "&" + u[1] + "|" + u[2], (a & b | c) == 1);
                    holdsIf("(" + u[0] + "|" + u[1] + ")&" + u[2], ((a | b) & c) == 1);
                    holdsIf(u[0] + "&(" + u[1] + "|" + u[2] + ")", (a & (b | c)) == 1);
                    holdsIf("!" + u[0] + "&" + u[1] + "|!" + u[2], (1 - a & b | 1 - c) == 1);
                    holdsIf("!(" + u[0] + "&" + u[1] + ")|" + u[2], (1 - (a & b) | c) == 1);
                    holdsIf("!!" + u[0] + "&!(!" + u[1] + "|" + u[2] + ")", (a & 1 - (1 - b | c)) == 1);
                }
            }
        }
        for (int left = 1; left <= 3; left++) {
            holdsIf(left + "<2", left < 2);
            holdsIf(left + "=2", left == 2);
            holdsIf(left + ">2", left > 2);
            holdsIf("0-" + left + "<0-2", left > 2);
            holdsIf("0-" + left + ">0-2", left < 2);
        }
        worthIs("y:20-5-3", 12);
        worthIs("y:20-5+3", 18);
        worthIs("y:20/5*3", 12);
        worthIs("y:20*5/3", 33);
        worthIs("y:2+3*4-6/2", 11);
        worthIs("y:20-[5-3]", 18);
        worthIs("y:60/[2*3]", 10);
    }

    private static void holdsIf(String condition, boolean due) {
        worthIs("y:" + condition + "?41;y:42", due ? 41 : 42);
    }

    private static void tapeHolds240() {
        about("promise 2: NONE: more than 240");
        for (int more = 1; more <= 20; more++) {
            OwedDays x = new OwedDays();
            tell(x, times("a", 240 - more));
            int[] over = more == 20 ? null : Texts.fives(times("b", more + 1)).get(0);
            if (over != null) {
                is("one too many behind " + (240 - more), x.feed(over[0], over[1], over[2], over[3], over[4]), NONE);
                is("none came", x.count(3), 240 - more);
            }
            int[] full = Texts.fives(times("b", more)).get(0);
            is(more + " behind " + (240 - more), x.feed(full[0], full[1], full[2], full[3], full[4]), 240);
            is("one more", x.feed(0, 0, 0, 0, 1), NONE);
            is("no more", x.feed(0, 0, 0, 0, 0), 240);
            is("240 stand", x.count(3), 240);
        }
        OwedDays x = new OwedDays();
        String text = "r;h" + times(" ", 220);
        tell(x, text);
        is("twenty x behind 223", x.feed(0x78787878, 0x78787878, 0x78787878, 0x78787878, 0x78787878), NONE);
        is("not one of them came", x.fault(0), NONE);
        is("room as before", x.feed(0x20202020, 0x20202020, 0x20202020, 0x20202020, 0x20000000), 240);
        is("a full tape is told", x.text(0), 1);
        is("and empty then", x.feed(0x78000000, 0, 0, 0, 0), 1);
        is("its first byte", x.fault(0), 0);
    }

    private static void tapeEnds() {
        about("promise 3: The TAPE has its first n bytes alone. False: n");
        OwedDays x = new OwedDays();
        is("0 of 0", x.end(0), true);
        is("1 of 0", x.end(1), false);
        is("-1 of 0", x.end(-1), false);
        tell(x, "r;hxyz");
        is("7 of 6", x.end(7), false);
        is("-1 of 6", x.end(-1), false);
        is("the least int", x.end(Integer.MIN_VALUE), false);
        is("the greatest int", x.end(Integer.MAX_VALUE), false);
        is("six stand", x.count(3), 6);
        is("6 of 6", x.end(6), true);
        is("six stand", x.count(3), 6);
        is("5 of 6", x.end(5), true);
        is("6 of 5", x.end(6), false);
        is("the first ones stand", x.fault(0), 3);
        is("3 of 5", x.end(3), true);
        is("alone", x.fault(0), NONE);
        is("0 of 3", x.end(0), true);
        is("nothing", x.fault(0), 0);
        tell(x, times("a", 240));
        is("241 of 240", x.end(241), false);
        is("240 of 240", x.end(240), true);
        is("239 of 240", x.end(239), true);
        is("how many", x.count(3), 239);
    }

    private static void tapeLeavesOutZeros() {
        about("promise 2: of each number the highest first; bytes of 0 are left out");
        int[] numbers = {0x72000000, 0x003B0000, 0x00006800, 0x0000007A, 0x39003B68};
        OwedDays x = new OwedDays();
        is("r ; h z 9;h", x.feed(numbers[0], numbers[1], numbers[2], numbers[3], numbers[4]), 7);
        is("no fault", x.fault(0), NONE);
        is("one stretch", x.text(0), 1);
        is("two houses", x.count(1), 2);
        is("z9 of the first", x.house(0, 2), 9);
        is("z without of the second", x.house(1, 2), 5);
        is("nothing", x.feed(0, 0, 0, 0, 0), 0);
        is("a byte with the highest bit", x.feed(0x80000000, 0, 0, 0, 0), 1);
        is("four of them", x.feed(-1, 0, 0, 0, 0), 5);
        is("wrong at the first", x.fault(0), 0);
    }
}
