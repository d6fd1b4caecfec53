/** Images (promises 23 and 24): each sentence with an edge by itself. */
public final class ImageEdgesTest extends Edges {
    private static final Due due = new Due("ImageEdgesTest");

    /** Everything of a wall as it is not at first, but for its tape and its sheets. */
    private static final Doing RICH = x -> {
        tell(x, "50,9;p30,w25,g12;3a,2b,4,1c,5d");
        x.wall(2, 3);
        x.wall(3, 2);
        x.oath(3, 0);
        x.seed(77);
        x.use(0);
        x.day(THAW);
        x.drift(2);
        x.use(4);
    };

    /** Changes to all of it. */
    private static final Doing[] CHANGES = {
        x -> x.builder(1, 9, 9), x -> x.hindrance(9, 1), x -> x.wall(0, 200), x -> x.wall(1, 40), x -> x.wall(2, 8), x -> x.wall(3, 7),
        x -> x.oath(0, 0), x -> x.oath(3, 1), x -> x.day(FAIR), x -> x.use(1), x -> x.drift(40), x -> x.undo(), x -> x.seed(5),
        x -> tell(x, "1,1;g99"), x -> tell(x, "200,40;b10,b20,b30,b40;9d,8d,7d,6d,5d,4d"),
        x -> { for (int k = 0; k < 9; k++) x.undo(); }, x -> { x.undo(); x.undo(); x.day(FROST); x.use(2); x.use(3); },
    };

    public static void main(String[] args) {
        noImage();
        asItWasThen();
        butSheetsAndTape();
        theLatest();
        againAndAgain();
        imageChangesNothing();
        due.end();
    }

    private static void noImage() {
        due.sentence("NONE: there is none.");
        SummerWall x = new SummerWall();
        due.is("none", x.restore(), NONE);
        due.is("none still", x.restore(), NONE);
        RICH.on(x);
        due.is("none still", x.restore(), NONE);
        due.is("refused", x.count(0), 3);
        due.same("refused", seen(y -> { RICH.on(y); y.restore(); }), seen(RICH));
        due.is("one", x.image(), 1);
        due.is("there is one", x.restore(), 1);
    }

    private static void asItWasThen() {
        due.sentence("All is as it was then: 1.");
        String then = seen(x -> { RICH.on(x); x.image(); });
        for (int k = 0; k < CHANGES.length; k++) {
            Doing change = CHANGES[k];
            due.same("behind change " + k, seen(x -> { RICH.on(x); x.image(); change.on(x); x.restore(); }), then);
        }
        due.same("behind all", seen(x -> {
            RICH.on(x);
            x.image();
            for (Doing change : CHANGES) {
                change.on(x);
            }
            x.restore();
        }), then);
        String atFirst = seen(x -> x.image());
        for (int k = 0; k < CHANGES.length; k++) {
            Doing change = CHANGES[k];
            due.same("a new wall behind change " + k, seen(x -> { x.image(); change.on(x); x.restore(); }), atFirst);
        }
    }

    private static void butSheetsAndTape() {
        due.sentence("All but SHEETS, THE TAPE is kept as an IMAGE: 1.");
        SummerWall x = new SummerWall();
        type(x, "7,5");
        x.sheet(0, 0, 3);
        x.sheet(1, 1, 4);
        x.item(0, 0, 0, 1);
        due.is("an image", x.image(), 1);
        type(x, ";p");
        x.item(0, 0, 0, 9);
        x.drop(1);
        x.sheet(2, 2, 5);
        due.is("an image", x.restore(), 1);
        due.is("the tape", x.type('1'), 6);
        due.is("a sheet that was dropped", x.drop(1), NULL);
        due.is("a sheet that is new", x.drop(2), 5);
        due.same("an item", items(x, 0, 0), "[900]");
        SummerWall empty = new SummerWall();
        empty.type('7');
        empty.image();
        empty.bargain();
        empty.restore();
        due.is("a tape that is empty since", empty.type('7'), 1);
    }

    private static void theLatest() {
        due.sentence("All is as it was then");
        SummerWall x = new SummerWall();
        x.image();
        x.wall(0, 61);
        x.image();
        x.wall(0, 62);
        x.restore();
        due.is("the latest image", x.count(2), 61);
        x.restore();
        due.is("the latest image, again", x.count(2), 61);
    }

    private static void againAndAgain() {
        due.sentence("All is as it was then: 1. NONE: there is none.");
        String then = seen(x -> { RICH.on(x); x.image(); });
        due.same("five times", seen(x -> {
            RICH.on(x);
            x.image();
            for (int k = 0; k < 5; k++) {
                CHANGES[k * 3].on(x);
                CHANGES[k * 3 + 1].on(x);
                x.restore();
            }
        }), then);
        SummerWall x = new SummerWall();
        x.image();
        tell(x, "7,5;p10");
        due.is("a bargain leaves it", x.restore(), 1);
        due.is("as it was", x.count(0), 0);
    }

    private static void imageChangesNothing() {
        due.sentence("is kept as an IMAGE: 1");
        SummerWall plain = behind(RICH);
        SummerWall imaged = behind(RICH);
        due.is("an image", imaged.image(), 1);
        for (int k = 0; k <= 12; k++) {
            due.is("count " + k, imaged.count(k), plain.count(k));
        }
        for (int k = 0; k < 10; k++) {
            due.is("undo", imaged.undo(), plain.undo());
            due.is("day", imaged.count(6), plain.count(6));
        }
        due.is("an image is nothing to be undone", imaged.count(12), 0);
    }
}
