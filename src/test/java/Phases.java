/** A table in each phase, for what calls answer there. */
final class Phases {
    static final int WALL = 0;
    static final int TURN = 1;
    static final int CLAIMS = 2;
    static final int OVER = 3;
    static final int FINISHED = 4;
    /** A turn in which nothing is drawn, as a tile was called. */
    static final int CALLED = 5;
    /** Claims to the tile of an added quad. */
    static final int ADDED = 6;
    static final int MANY = 7;

    private Phases() {
    }

    static int phaseOf(int which) {
        return which == CALLED ? TURN : which == ADDED ? CLAIMS : which;
    }

    static RiichiTable at(int which) {
        if (which == WALL) return new RiichiTable(9);
        if (which == FINISHED) {
            RiichiTable table = Scene.before(7);
            Scene.orphansDrawn(table, 1);
            return table;
        }
        if (which == ADDED) return added();
        RiichiTable table = asked();
        if (which == TURN) return table;
        table.discard(Scene.kind("5p"), false);
        if (which == CLAIMS) return table;
        table.claim(1, 0, 0);
        table.claim(2, 2, 0);
        table.claim(3, which == OVER ? 4 : 0, 0);
        return table;
    }

    /** Player 0 has 5p, which player 1 may take for a run, 2 for a triplet, and by which 3 may win. */
    private static RiichiTable asked() {
        return new Scene().hand(0, "5p 1m 9m 2222s").hand(1, "46p 159m 159s 345z 7z 6z").hand(2, "55p 147m 369s 3467z 9m")
                .hand(3, "345m 678m 34p 678s 88s").draws("1z 2z").deal();
    }

    /** Player 1 adds to 3s, and player 2 may win by that. */
    private static RiichiTable added() {
        RiichiTable table = new Scene().hand(0, "3s 159m 159p 15s 1244z").hand(1, "33s 22z 7m 37p 3399m 5m 6m")
                .hand(2, "123m 678m 345p 12s 99p").hand(3, "258m 258p 8s 2z 6677z")
                .draws("5z 4z 5z 5z 3s 6z").replacements("6z").deal();
        table.discard(Scene.kind("3s"), false);
        table.claim(1, 2, 0);
        Scene.pass(table);
        Scene.letGo(table, Scene.kind("5m"));
        Scene.letGoDrawn(table, 3);
        table.quad(Scene.kind("3s"));
        return table;
    }
}
