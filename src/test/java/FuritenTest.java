/** Promises 16 and 17: waits and furiten. */
public final class FuritenTest {
    private static final Check CHECK = new Check();
    private static final String QUIET = "147m 258p 369s 345z";
    /** Ready for 5s and 8s, with yaku 8. */
    private static final String READY = "234m 678m 345p 67s 99p";

    public static void main(String[] args) {
        waits();
        waitsWithMelds();
        ownDiscards();
        missedForATurn();
        missedWithoutYaku();
        missedWhileOthersTake();
        missedInRiichi();
        ownDiscardMissedInRiichi();
        takesTheTile();
        addedQuadMissed();
        CHECK.end();
    }

    private static int k(String text) {
        return Scene.kind(text);
    }

    private static void waitsOf(String hand, String want) {
        RiichiTable table = new Scene().hand(1, hand).draws("3z").deal();
        CHECK.due(hand, table.waits(1), Scene.mask(want));
        CHECK.due("drawn and to discard", table.waits(0), 0);
    }

    private static void waits() {
        waitsOf(READY, "58s");
        waitsOf("234m 678m 345p 68s 99p", "7s");
        waitsOf("234m 678m 345p 89s 99p", "7s");
        waitsOf("234m 678m 345p 12s 99p", "3s");
        waitsOf("234m 678m 345p 678s 9p", "9p");
        waitsOf("234m 678m 345p 77s 99p", "7s 9p");
        waitsOf("2223m 678m 345p 789s", "134m");
        waitsOf("23456m 678m 345p 99p", "147m");
        waitsOf("3334555m 345p 789s", "23456m");
        waitsOf("1122m 4466p 8899s 1z", "1z");
        waitsOf("1122m 4466p 8888s 1z", "");
        waitsOf("223344m 5566p 77s 8s", "8s");
        waitsOf("19m 19p 19s 1234567z", "19m 19p 19s 1234567z");
        waitsOf("19m 19p 19s 1134567z", "2z");
        waitsOf("19m 19p 12s 1234567z", "");
        waitsOf("99m 19p 19s 1234567z", "1m");
        waitsOf("11m 19p 19s 1234567z", "9m");
        waitsOf("1112345678999p", "123456789p");
        waitsOf("1111m 234p 567p 789s", "");
        waitsOf("1111m 23m 567p 789s 1z", "1z");
        waitsOf("2222m 34m 567p 789s 1z", "1z");
        waitsOf("3333m 345p 12m 789s 5p", "25p");
        waitsOf("89m 1p 234p 567s 11z 99s", "");
        waitsOf("234m 678m 345p 67s 95p", "");
        RiichiTable table = new Scene().hand(1, READY).deal();
        CHECK.due("no such player", table.waits(4), 0);
        CHECK.due("no such player", table.waits(-1), 0);
    }

    private static void waitsWithMelds() {
        RiichiTable table = new Scene().hand(0, "1111m 23m 456p 789s 9p").hand(1, "258m 147p 369s 3456z").draws("9p").replacements("3z").deal();
        table.quad(k("1m"));
        Scene.letGo(table, k("3z"));
        CHECK.due("1m is all one's own", table.waits(0), Scene.mask("4m"));

        table = new Scene().hand(0, "555m 46m 99p 789s 67m 1z").hand(1, QUIET).hand(3, "5m").draws("2z 2z 7z 7z").deal();
        Scene.letGo(table, k("2z"));
        Scene.letGoDrawn(table, 2);
        table.discard(k("5m"), false);
        CHECK.due("run", table.claim(0, 1, k("5m")), 1);
        CHECK.due("one to discard", table.waits(0), 0);
        Scene.letGo(table, k("1z"));
        CHECK.due("5m is all one's own", table.waits(0), Scene.mask("9p"));

        // Three of a triplet and two of a run are not all four.
        table = new Scene().hand(0, "33m 12m 456p 789s 9p 2z 1z").hand(1, QUIET).hand(3, "3m").draws("9p 7z 7z 7z").deal();
        Scene.letGo(table, k("2z"));
        Scene.letGoDrawn(table, 2);
        table.discard(k("3m"), false);
        CHECK.due("triplet", table.claim(0, 2, 0), 1);
        Scene.letGo(table, k("1z"));
        CHECK.due("the fourth 3m", table.waits(0), Scene.mask("3m"));

        table = new Scene().hand(0, "23m 33m 456p 789s 9p 2z 1z").hand(1, QUIET).hand(3, "1m").draws("9p 7z 7z 7z").deal();
        Scene.letGo(table, k("2z"));
        Scene.letGoDrawn(table, 2);
        table.discard(k("1m"), false);
        table.claim(0, 1, k("1m"));
        Scene.pass(table);
        CHECK.due("run", table.meld(0, 0), 4 * k("1m"));
        Scene.letGo(table, k("1z"));
        CHECK.due("the fourth 3m", table.waits(0), Scene.mask("3m 9p"));

        // With melds there are neither seven pairs nor orphans.
        table = new Scene().hand(0, "7777z 1122m 3344p 5s").hand(1, QUIET).draws("5s").replacements("6z").deal();
        table.quad(k("7z"));
        Scene.letGo(table, k("6z"));
        CHECK.due("no pairs behind a quad", table.waits(0), 0);
    }

    private static void ownDiscards() {
        RiichiTable table = new Scene().hand(0, READY).hand(1, "8s 147m 258p 3456z 1s 9s").hand(2, QUIET).hand(3, QUIET)
                .draws("5s 7z 7z 7z 1z 1z").deal();
        CHECK.due("not yet", table.furiten(0), false);
        Scene.letGo(table, k("5s"));
        CHECK.due("5s lies there", table.furiten(0), true);
        CHECK.due("others aren't", table.furiten(1), false);
        CHECK.due("8s can't be won", table.discard(k("8s"), false), 1);
        CHECK.due("furiten", table.furiten(0), true);
        Scene.letGoDrawn(table, 2);
        CHECK.due("who", table.who(), 0);
        CHECK.due("one to discard: no waits", table.furiten(0), false);
        Scene.letGoDrawn(table, 1);
        CHECK.due("again", table.furiten(0), true);

        // What was taken stays one of the player's discards.
        table = new Scene().hand(0, READY).hand(1, "55s 8s 147m 258p 3456z").hand(2, QUIET).hand(3, QUIET)
                .draws("5s 7z 7z 7z").deal();
        table.discard(k("5s"), false);
        CHECK.due("taken", table.claim(1, 2, 0), 1);
        CHECK.due("river", table.river(0, 0), k("5s"));
        CHECK.due("furiten", table.furiten(0), true);
        CHECK.due("8s can't be won", table.discard(k("8s"), false), 1);
    }

    private static void missedForATurn() {
        RiichiTable table = new Scene().hand(0, READY).hand(1, "8s 147m 258p 3456z 1s 9s").hand(2, "8s 147m 258p 3456z 1s 2s")
                .hand(3, "5s 147m 258p 3456z 1s 2s").draws("7z 7z 7z 6z 1z").deal();
        Scene.letGo(table, k("7z"));
        CHECK.due("can be won", table.discard(k("8s"), false), 2);
        CHECK.due("option", table.options(0), 16);
        CHECK.due("not missed yet", table.furiten(0), false);
        CHECK.due("let go", table.claim(0, 0, 0), 1);
        CHECK.due("missed", table.furiten(0), true);
        CHECK.due("not the next one", table.discard(k("8s"), false), 1);
        CHECK.due("the other wait", table.discard(k("5s"), false), 2);
        CHECK.due("a run, but no win", table.options(0), 2);
        Scene.pass(table);
        CHECK.due("who", table.who(), 0);
        CHECK.due("drawn, forgotten", table.furiten(0), false);
        Scene.letGoDrawn(table, 1);
        CHECK.due("stays forgotten", table.furiten(0), false);
    }

    private static void missedWithoutYaku() {
        RiichiTable table = new Scene().hand(0, "234m 678m 345p 68s 99p").hand(1, "7s 147m 258p 3456z 1s 9s").hand(2, QUIET)
                .hand(3, QUIET).draws("7z 7z 7z 6z 1z").deal();
        Scene.letGo(table, k("7z"));
        CHECK.due("no option without yaku", table.discard(k("7s"), false), 1);
        CHECK.due("missed all the same", table.furiten(0), true);
        Scene.letGoDrawn(table, 2);
        CHECK.due("forgotten", table.furiten(0), false);
    }

    /** Missing is noted also when somebody takes the tile, or wins by it. */
    private static void missedWhileOthersTake() {
        Scene scene = new Scene().hand(0, READY).hand(1, "8s 147m 258p 3456z 1s 9s").hand(2, "88s 147m 369p 3456z 1s")
                .hand(3, "123m 567p 67s 456p 33z").draws("7z 7z 7z 6z 1z").indicators("1z", "");
        RiichiTable table = scene.deal();
        Scene.letGo(table, k("7z"));
        table.discard(k("8s"), false);
        CHECK.due("triplet", table.claim(2, 2, 0), 2);
        CHECK.due("let go", table.claim(0, 0, 0), 2);
        CHECK.due("let go", table.claim(3, 0, 0), 1);
        CHECK.due("missed", table.furiten(0), true);
        CHECK.due("missed", table.furiten(3), true);
        CHECK.due("taken", table.who(), 2);

        table = scene.deal();
        Scene.letGo(table, k("7z"));
        table.discard(k("8s"), false);
        table.claim(2, 0, 0);
        table.claim(0, 0, 0);
        CHECK.due("won", table.claim(3, 4, 0), 3);
        CHECK.due("missed", table.furiten(0), true);
        CHECK.due("won, not missed", table.furiten(3), false);
        CHECK.due("waits when it is over", table.waits(3), Scene.mask("58s"));
        table.next();
        CHECK.due("no furiten before the deal", table.furiten(0), false);
        CHECK.due("no waits before the deal", table.waits(3), 0);
        CHECK.due("nobody", table.furiten(4), false);
        CHECK.due("nobody", table.furiten(-1), false);
    }

    private static void missedInRiichi() {
        RiichiTable table = new Scene().hand(0, READY).hand(1, "8s 147m 258p 3456z 1s 9s").hand(2, "5s 147m 258p 3456z 1s 2s")
                .hand(3, QUIET).draws("7z 7z 7z 6z 1z 1z 7z 2z 5s").deal();
        CHECK.due("riichi", table.discard(k("7z"), true), 1);
        table.discard(k("8s"), false);
        CHECK.due("let go", table.claim(0, 0, 0), 1);
        CHECK.due("missed", table.furiten(0), true);
        Scene.letGoDrawn(table, 2);
        CHECK.due("who", table.who(), 0);
        CHECK.due("not forgotten in riichi", table.furiten(0), true);
        Scene.letGoDrawn(table, 2);
        CHECK.due("5s can't be won", table.discard(k("5s"), false), 1);
        Scene.letGoDrawn(table, 1);
        CHECK.due("who", table.who(), 0);
        CHECK.due("drawn", table.drawn(), k("5s"));
        CHECK.due("by what is drawn", table.win() > 0, true);
    }

    /** The words about missing leave nobody out, so that one's own discard is missed too. */
    private static void ownDiscardMissedInRiichi() {
        RiichiTable table = new Scene().hand(0, "234m 678m 345p 67s 99p").hand(1, QUIET).hand(2, QUIET).hand(3, QUIET)
                .draws("5s 7z 7z 7z 1z").deal();
        CHECK.due("riichi with one of the waits", table.discard(k("5s"), true) > 0, true);
        Scene.pass(table);
        CHECK.due("furiten", table.furiten(0), true);
        Scene.letGoDrawn(table, 3);
        CHECK.due("who", table.who(), 0);
        CHECK.due("no waits now", table.waits(0), 0);
        CHECK.due("missed", table.furiten(0), true);
    }

    private static void takesTheTile() {
        RiichiTable table = new Scene().hand(0, "234m 678m 345p 55z 66z").hand(1, "5z 147m 258p 369s 134z").hand(2, QUIET)
                .hand(3, "234z 147m 258p 369s 6z").draws("7z 7z 7z 6z 1z 1z").deal();
        Scene.letGo(table, k("7z"));
        table.discard(k("5z"), false);
        CHECK.due("win or triplet", table.options(0), 20);
        CHECK.due("triplet", table.claim(0, 2, 0), 1);
        CHECK.due("missed and forgotten", table.furiten(0), false);
        Scene.letGo(table, k("2m"));
        CHECK.due("2m lies there", table.furiten(0), true);
    }

    private static void addedQuadMissed() {
        RiichiTable table = new Scene().hand(0, "3s 159m 159p 15s 1244z").hand(1, "33s 22z 7m 37p 3399m 5m 6m")
                .hand(2, "123m 678m 345p 12s 99p").hand(3, "258m 258p 8s 2z 6677z")
                .draws("5z 4z 5z 5z 3s 6z").replacements("6z").deal();
        table.discard(k("3s"), false);
        table.claim(1, 2, 0);
        Scene.pass(table);
        CHECK.due("missed without a yaku", table.furiten(2), true);
        Scene.letGo(table, k("5m"));
        CHECK.due("forgotten", table.furiten(2), false);
        Scene.letGoDrawn(table, 3);
        CHECK.due("added", table.quad(k("3s")), 2);
        CHECK.due("not yet", table.furiten(2), false);
        CHECK.due("let go", table.claim(2, 0, 0), 1);
        CHECK.due("missed", table.furiten(2), true);
    }
}
