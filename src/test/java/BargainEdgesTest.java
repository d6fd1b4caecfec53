/** The tape and the bargain on it (promises 7 and 8): each sentence with an edge by itself. */
public final class BargainEdgesTest extends Edges {
    private static final Due due = new Due("BargainEdgesTest");
    private static final String DIGITS = "0123456789", SOME_DIGITS = "123456789";

    public static void main(String[] args) {
        letters();
        fullTape();
        emptyThen();
        stonesAndDays();
        digits();
        fourthDigit();
        blanksEndANumber();
        blanksCountForNothing();
        eachLetterInEachPlace();
        builders();
        hindrances();
        kinds();
        oaths();
        theEnd();
        inPlaceOfAll();
        whatStays();
        aFault();
        due.end();
    }

    private static void letters() {
        due.sentence("BAD: not 32 .. 126");
        span(due, "letter", 32, 126, v -> new SummerWall().type(v));
        SummerWall x = new SummerWall();
        due.is("the least", x.type(32), 1);
        due.is("the most", x.type(126), 2);
        due.is("refused", x.type(31), BAD);
        due.is("refused", x.type(127), BAD);
        due.is("what is refused is not on it", x.type(32), 3);
        due.is("256 more is no letter", x.type('7' + 256), BAD);
        due.is("65536 more is no letter", x.type('7' + 65536), BAD);
    }

    private static void fullTape() {
        due.sentence("how many it has. BAD: not 32 .. 126; FULL: 60.");
        String whole = "  200 , 40 ; p10 , h29 , b33 , g94 ; 1 , 2a , 3b , 4c , 5d,9";
        due.is("sixty letters", whole.length(), 60);
        SummerWall x = new SummerWall();
        for (int k = 0; k < 60; k++) {
            due.is("how many", x.type(whole.charAt(k)), k + 1);
        }
        due.is("the 61st", x.type('x'), FULL);
        due.is("BAD is named first", x.type(127), BAD);
        due.is("the 61st, again", x.type(' '), FULL);
        due.is("what was refused is not on it", x.bargain(), 4);
        due.is("the last letter is on it", x.count(1), 6);
    }

    private static void emptyThen() {
        due.sentence("THE TAPE, which is empty then");
        SummerWall x = new SummerWall();
        due.is("a bargain", tell(x, "7,5;p10"), 1);
        due.is("the tape is empty", x.bargain(), -20);
        due.is("a fault", tell(x, "7,5;p"), -25);
        due.is("the tape is empty", x.type('7'), 1);
        due.is("behind it nothing of the old one", x.bargain(), -21);
    }

    private static void stonesAndDays() {
        due.sentence("a number 1 .. 200 (STONES), then , and a number 1 .. 40 (DAYS)");
        for (int v = 0; v <= 999; v++) {
            SummerWall x = new SummerWall();
            boolean good = v >= 1 && v <= 200;
            due.is("stones " + v, tell(x, v + ",5;p10"), good ? 1 : -20);
            due.is("stones", x.count(2), good ? v : 60);
            SummerWall y = new SummerWall();
            good = v >= 1 && v <= 40;
            due.is("days " + v, tell(y, "7," + v + ";p10"), good ? 1 : -22);
            due.is("days", y.count(3), good ? v : 20);
        }
    }

    private static void digits() {
        due.sentence("Numbers have 1 to 3 digits.");
        answers("7,5;p10", 1, "07,05;p10", 1, "007,005;p10", 1, "0007,5;p10", -20, "7,0005;p10", -22);
        answers("200,040;p10", 1, "010,010;p10", 1, "000,5;p10", -20, "00,5;p10", -20, "7,00;p10", -22, "7,000;p10", -22);
        due.is("noughts ahead count for nothing", countsOf("007,010;p10", 2), 7);
        due.is("noughts ahead count for nothing", countsOf("007,010;p10", 3), 10);
    }

    private static void fourthDigit() {
        due.sentence("the first letter ... that can't stand there, or of the number's first digit, if it is not as told");
        answers("1000,5;p10", -23, "0010,5;p10", -23, "2000,5;p10", -23, "2001,5;p10", -23, "2010,5;p10", -20, "9999,5;p10", -20);
        answers("7,0400;p10", -25, "7,0101;p10", -25, "7,0410;p10", -22, "7,4000;p10", -22, "7,1000;p10", -22, "  1000,5;p10", -25);
        answers("201x", -20, "0x", -20, " 201 x", -21, "7,41x", -22, "7, 0 x", -23, "200x", -23, "7,40x", -24);
    }

    private static void blanksEndANumber() {
        due.sentence("blanks count for nothing, but end a number");
        answers("2 0,5;p10", -22, "20 0,5;p10", -23, "200 ,5;p10", 1, "200 0,5;p10", -24, "7,4 0;p10", -24, "7,40 ;p10", 1, "7,4  1;p10", -25);
        answers("0 7,5;p10", -20, "0 201,5;p10", -20, "7,0 5;p10", -22);
    }

    private static void blanksCountForNothing() {
        due.sentence("blanks count for nothing");
        String text = "27,15;g19,w20;3a,4";
        for (int k = 0; k <= text.length(); k++) {
            boolean inNumber = k == 1 || k == 4;
            int want = inNumber ? -20 - (k + 2) : 2;
            answers(text.substring(0, k) + "  " + text.substring(k), want);
        }
        SummerWall x = of(" 27 , 15 ; g 1 9 , w 2 0 ; 3 a , 4 ");
        due.is("stones", x.count(2), 27);
        due.is("days", x.count(3), 15);
        due.is("horse", x.of(0, 2), 9);
        due.is("hindrances", x.count(1), 2);
        x.use(0);
        due.is("its oath", x.count(10), 1);
    }

    /** Behind each beginning every letter: those that may stand there, and all others with their FAULT. */
    private static void eachLetterInEachPlace() {
        due.sentence("FAULTS: -20 less the place of the first letter (behind blanks) that can't stand there");
        place("", SOME_DIGITS, -1, "");
        place("7", "," + DIGITS, -1, "");
        place("20", ",0", 0, SOME_DIGITS);
        place("200", ",", -1, "");
        place("7,", SOME_DIGITS, -1, "");
        place("7,3", ";" + DIGITS, -1, "");
        place("7,4", ";0", 2, SOME_DIGITS);
        place("7,40", ";", 2, DIGITS);
        place("7,040", ";", -1, "");
        place("7,5;", "phbgw", -1, "");
        place("7,5;p", SOME_DIGITS, -1, "");
        place("7,5;p1", DIGITS, -1, "");
        place("7,5;p10", ",;", -1, "");
        place("7,5;p10,", "phbgw", -1, "");
        place("7,5;p10,h", SOME_DIGITS, -1, "");
        place("7,5;p10,h1", DIGITS, -1, "");
        place("7,5;p10,p10,p10", ",;", -1, "");
        place("7,5;p10,p10,p10,p10", ";", -1, "");
        place("7,5;p10;", SOME_DIGITS, -1, "");
        place("7,5;p10;1", ",abcd", -1, "");
        place("7,5;p10;1a", ",", -1, "");
        place("7,5;p10;1,", SOME_DIGITS, -1, "");
        place("7,5;p10;1,1,1,1,1", ",abcd", -1, "");
        place("7,5;p10;1,1,1,1,1,1", "abcd", -1, "");
        place("7,5;p10;1,1,1,1,1,1d", "", -1, "");
    }

    /** What may stand there goes on to the end; letters of 'spoils' make the number that begins at a place a wrong one. */
    private static void place(String ahead, String may, int number, String spoils) {
        for (char c = 33; c <= 126; c++) {
            int want = -20 - ahead.length();
            if (spoils.indexOf(c) >= 0) {
                want = -20 - number;
            } else if (may.indexOf(c) >= 0) {
                want = ends(ahead + c) ? 1 : -20 - ahead.length() - 1;
            }
            int got = tell(new SummerWall(), ahead + c);
            due.is("bargain '" + ahead + c + "'", got > 0 ? 1 : got, want);
            boolean atNumber = !ahead.isEmpty() && Character.isDigit(ahead.charAt(ahead.length() - 1)) && Character.isDigit(c);
            if (want < 0 && !atNumber) {
                int blanks = want == -20 - ahead.length() || want == -20 - ahead.length() - 1 ? 3 : 0;
                due.is("bargain '" + ahead + "   " + c + "'", tell(new SummerWall(), ahead + "   " + c), want - blanks);
            }
        }
    }

    /** That a text which is right so far may end there: behind a whole builder or hindrance. */
    private static boolean ends(String text) {
        return text.matches("[0-9]+,[0-9]+;[phbgw][0-9]{2}(,[phbgw][0-9]{2})*(;[0-9][abcd]?(,[0-9][abcd]?)*)?");
    }

    private static void builders() {
        due.sentence("then ; and 1 to 4 BUILDERS with , between");
        answers("7,5;", -24, "7,5", -23, "7,5;p10", 1, "7,5;p10,h20", 2, "7,5;p10,h20,b30", 3, "7,5;p10,h20,b30,g40", 4);
        answers("7,5;p10,h20,b30,g40,w50", -39, "7,5;p10,h20,b30,g40,", -39, "7,5;p10,h20,b30,g40  ,w50", -41);
        answers("7,5;p10h20", -27, "7,5;,p10", -24, "7,5;p10,,h20", -28, "7,5;p10,", -28, "7,5;;1", -24);
        due.sentence("a digit 1 .. 9 (PACE), a digit 0 .. 9 (HORSE)");
        answers("7,5;p00", -25, "7,5;p10", 1, "7,5;p90", 1, "7,5;p19", 1, "7,5;p99", 1, "7,5;p100", -27, "7,5;p1", -26, "7,5;p", -25);
        SummerWall x = of("7,5;h10,h99");
        due.is("pace", x.of(0, 1), 1);
        due.is("horse", x.of(0, 2), 0);
        due.is("pace", x.of(1, 1), 9);
        due.is("horse", x.of(1, 2), 9);
    }

    private static void hindrances() {
        due.sentence("then perhaps ; and 1 to 6 HINDRANCES with , between");
        answers("7,5;p10;", -28, "7,5;p10;1", 1, "7,5;p10;1,2,3,4,5,6", 1, "7,5;p10;1,2,3,4,5,6,7", -39, "7,5;p10;1,2,3,4,5,6,", -39);
        answers("7,5;p10;1,2,3,4,5,6a,7", -40, "7,5;p10;1a,2b,3c,4d,5a,6b", 1, "7,5;p10;1a,2b,3c,4d,5a,6b ,", -46, "7,5;p10;1;2", -29);
        answers("7,5;p10;,1", -28, "7,5;p10;1,", -30, "7,5;p10;1,,2", -30, "7,5;p10,;1", -28);
        for (int n = 0; n <= 6; n++) {
            due.is("hindrances", countsOf("7,5;p10" + ";1,2,3,4,5,6".substring(0, 2 * n), 1), n);
        }
        due.sentence("a digit 1 .. 9 (what it costs)");
        answers("7,5;p10;0", -28, "7,5;p10;1", 1, "7,5;p10;9", 1, "7,5;p10;10", -29, "7,5;p10;99", -29, "7,5;p10;9a,0", -31);
        SummerWall x = of("7,5;p10;1,9");
        due.is("the least", x.use(0), 1);
        due.is("the most", x.use(1), 10);
    }

    private static void kinds() {
        due.sentence("p h b g w (KINDS in this order)");
        for (int kind = 0; kind < 5; kind++) {
            due.is("kind", of("7,5;" + "phbgw".charAt(kind) + "11").of(0, 0), kind);
        }
        answers("7,5;P11", -24, "7,5;a11", -24, "7,5;011", -24, "7,5;x11", -24);
    }

    private static void oaths() {
        due.sentence("perhaps a b c d (OATHS 0 .. 3)");
        for (int oath = 0; oath < 4; oath++) {
            SummerWall x = of("7,5;p10;1,1" + "abcd".charAt(oath));
            x.use(0);
            due.is("none", x.count(10), 0);
            x.use(1);
            due.is("oath", x.count(10), 1 << oath);
        }
        answers("7,5;p10;1e", -29, "7,5;p10;1A", -29, "7,5;p10;1`", -29, "7,5;p10;1ab", -30, "7,5;p10;1aa", -30, "7,5;p10;a", -28);
    }

    private static void theEnd() {
        due.sentence("(the end: how many there are)");
        String text = "27,15;g19,w20;3a,4";
        for (int k = 0; k <= text.length(); k++) {
            String part = text.substring(0, k);
            for (int blanks = 0; blanks <= 3; blanks++) {
                int got = tell(new SummerWall(), part + "   ".substring(0, blanks));
                due.is("'" + part + "' and " + blanks + " blanks", got > 0 ? 1 : got, ends(part) ? 1 : -20 - k - blanks);
            }
        }
        SummerWall x = new SummerWall();
        type(x, "7,5;p10,".concat(" ".repeat(52)));
        due.is("a tape of sixty", x.bargain(), -80);
        SummerWall blank = new SummerWall();
        type(blank, " ".repeat(60));
        due.is("sixty blanks", blank.bargain(), -80);
    }

    private static void inPlaceOfAll() {
        due.sentence("in place of all BUILDERS, HINDRANCES, of STONES, DAYS; DAY 0, nothing LAID, USED, BROKEN");
        SummerWall x = of("200,40;p10,h20,b30,g40;1a,2b,3c,4d,5,6");
        x.use(0);
        x.day(FAIR);
        x.use(1);
        due.is("how many builders", tell(x, "1,1;w29"), 1);
        counts(due, "a small one", x, 1, 0, 1, 1, 2, 1, 0, 0, 0, 0, 0, 15, 0);
        due.is("the old second builder", x.of(1, 0), BAD);
        due.is("the old first hindrance", x.use(0), BAD);
        due.is("how many builders", tell(x, "200,40;p10,h20,b30,g40;1a,2b,3c,4d,5,6"), 4);
        counts(due, "a large one", x, 4, 6, 200, 40, 2, 1, 0, 0, 0, 0, 0, 15, 0);
        due.is("none is used", x.use(0), 1);
        due.sentence("a BARGAIN ... leave nothing to be UNDONE");
        due.is("a deed", x.count(12), 1);
        tell(x, "7,5;p10");
        due.is("none", x.count(12), 0);
        due.is("none", x.undo(), NONE);
        SummerWall summer = of("7,1;p10");
        summer.day(FAIR);
        due.is("summer", summer.day(FAIR), FULL);
        tell(summer, "7,1;p10");
        due.is("winter", summer.day(FAIR), 1);
    }

    private static void whatStays() {
        due.sentence("(FROST, THAW, what is SWORN, THE DRAW stay)");
        SummerWall x = of("7,5;p10", 7, 3);
        x.oath(0, 0);
        x.oath(2, 0);
        x.seed(HIGH);
        tell(x, "8,6;p10;1");
        counts(due, "they", x, 1, 1, 8, 6, 7, 3, 0, 0, 0, 0, 0, 10, 0);
        due.is("the draw", x.seed(0), HIGH);
        x.image();
        x.sheet(2, 1, 5);
        tell(x, "9,6;p10;1");
        due.is("a sheet", x.drop(2), 5);
        due.is("an image", x.restore(), 1);
        due.is("an image", x.count(2), 8);
    }

    private static void aFault() {
        due.sentence("A FAULT (all else stays)");
        Doing rich = x -> {
            tell(x, "50,9;p30,w25,g12;3a,2b,4,1c,5d");
            x.wall(2, 3);
            x.oath(3, 0);
            x.seed(77);
            x.use(0);
            x.image();
            x.drift(2);
            x.use(1);
            x.sheet(1, 2, 3);
            x.item(1, 2, 1, 5);
        };
        String before = seen(rich);
        String[] faults = {"", " ", "0", "201,5;p10", "7", "7,", "7,41;p10", "7,5;p10,p10,p10,p10,p10", "7,5;p10;1,1,1,1,1,1,1", "7,5;p10;1x"};
        for (String f : faults) {
            due.that("a fault: " + f, tell(behind(rich), f) <= -20);
            due.same("behind '" + f + "'", seen(x -> { rich.on(x); tell(x, f); }), before);
        }
    }

    private static int countsOf(String text, int what) {
        return of(text).count(what);
    }

    /** Texts, each with the answer that is due. */
    private static void answers(Object... pairs) {
        for (int k = 0; k < pairs.length; k += 2) {
            due.is("bargain '" + pairs[k] + "'", tell(new SummerWall(), (String) pairs[k]), (Integer) pairs[k + 1]);
        }
    }
}
