/** The boundary cases of the wall, the deal and the dora, and of promises 1, 2, 3 and 22. */
public final class EdgesOfWallTest {
    private static final Check CHECK = new Check();
    private static final int[] SEEDS = {1, 0, 2, -1, 77, Integer.MIN_VALUE, Integer.MAX_VALUE, -123456789};

    public static void main(String[] args) {
        seedZero();
        shuffle();
        draws();
        hands();
        lastPlace();
        completedQuads();
        replacements();
        indicators();
        dora();
        newObject();
        arranged();
        notArranged();
        notDealt();
        state();
        CHECK.end();
    }

    private static int k(String text) {
        return Scene.kind(text);
    }

    private static void seedZero() {
        CHECK.sentence("The generator has a state x, an int, at first the seed, but 1 if that is 0.");
        CHECK.due("state of seed 1", new RiichiTable(1).state(), -633687712);
        CHECK.due("state of seed 0", new RiichiTable(0).state(), -633687712);
        CHECK.due("state of seed 2 is another", new RiichiTable(2).state() == -633687712, false);
        CHECK.due("state of seed -1 is another", new RiichiTable(-1).state() == -633687712, false);
    }

    /** Every place is seen: by the deal and the draws, and the last ones by where a kind can't be found. */
    private static void shuffle() {
        CHECK.sentence("THE WALL has 136 places. It is shuffled from tiles 0 .. 135 in order (tile t is of kind t / 4):"
                + " for i from 135 down to 1 the tiles at i and at DRAW(i + 1) change places.");
        for (int seed : SEEDS) {
            int[] tiles = new PlainTable(seed).wall;
            RiichiTable table = new RiichiTable(seed);
            table.deal();
            int[][] counts = new int[4][34];
            for (int i = 0; i < 52; i++) counts[i / 13][tiles[i] / 4]++;
            counts[0][tiles[52] / 4]++;
            for (int kind = 0; kind < 34; kind++) {
                for (int p = 0; p < 4; p++) CHECK.due("seed " + seed + " hand", table.concealed(p, kind), counts[p][kind]);
            }
            for (int place = 52; place < 122; place++) {
                CHECK.due("seed " + seed + " place " + place, table.drawn(), tiles[place] / 4);
                Scene.letGoDrawn(table, 1);
            }
            lastPlaces(seed);
        }
    }

    private static void lastPlaces(int seed) {
        PlainTable plain = new PlainTable(seed);
        RiichiTable table = new RiichiTable(seed);
        for (int place = 135; place > 121; place--) {
            for (int kind = 0; kind < 34; kind++) {
                CHECK.due("seed " + seed + " place " + place + " kind " + kind, table.arrange(place, kind), plain.arrange(place, kind));
            }
        }
    }

    private static void draws() {
        CHECK.sentence("DRAW(n): x = x ^ x << 13, then x = x ^ x >>> 17, then x = x ^ x << 5; the draw is x without its highest bit, modulo n.");
        // The first draw of seed 0x80000000 has its highest bit set: 135 changes places with that one modulo 136.
        int x = Integer.MIN_VALUE;
        x = x ^ x << 13;
        x = x ^ x >>> 17;
        x = x ^ x << 5;
        CHECK.due("the highest bit", x < 0, true);
        int tile = (int) ((x & 0x7fffffffL) % 136);
        for (int kind = 0; kind < 34; kind++) {
            CHECK.due("place 135, kind " + kind, new RiichiTable(Integer.MIN_VALUE).arrange(135, kind), kind == tile / 4);
        }
    }

    private static void hands() {
        CHECK.sentence("player (dealer + s) % 4 gets the tiles at the places 13 s .. 13 s + 12.");
        for (int dealer = 0; dealer < 4; dealer++) {
            RiichiTable table = Scene.before(dealer);
            Scene scene = new Scene();
            for (int s = 0; s < 4; s++) {
                String mark = s + 1 + "z";
                scene.put(13 * s, mark + mark).put(13 * s + 11, mark + mark);
            }
            scene.draws("7z 6z").dealOn(table);
            for (int s = 0; s < 4; s++) {
                int p = (dealer + s) % 4;
                CHECK.due("dealer " + dealer + ", first and last of " + p, table.concealed(p, 27 + s), 4);
                int sum = 0;
                for (int kind = 0; kind < 34; kind++) sum += table.concealed(p, kind);
                CHECK.due("dealer " + dealer + ", tiles of " + p, sum, s == 0 ? 14 : 13);
            }
            CHECK.due("the dealer", table.table(0), dealer);
            CHECK.due("drawn", table.drawn(), k("7z"));
        }
    }

    /** Player 0 can make three quads, player 1 a fourth, player 2 is ready for 5s and 8s. */
    private static Scene quadScene() {
        return new Scene().hand(0, "1111z 2222z 3333z 9m").hand(1, "5555z 14m 25p 69s 7s 9m 4s").hand(2, "234m 678m 345p 67s 99p")
                .hand(3, "5s 147m 258p 39s 4s").draws("6z 7z 4z 4z").replacements("6667z");
    }

    /** The turn of player 2, with so many quads on the table. */
    private static RiichiTable withQuads(Scene scene, int quads) {
        RiichiTable table = scene.deal();
        for (int i = 0; i < quads && i < 3; i++) CHECK.due("quad " + i, table.quad(27 + i), 1);
        Scene.letGo(table, k("6z"));
        if (quads == 4) CHECK.due("quad 3", table.quad(k("5z")), 1);
        Scene.letGo(table, k("7z"));
        CHECK.due("quads", table.table(5), quads);
        CHECK.due("who", table.who(), 2);
        return table;
    }

    private static void lastPlace() {
        CHECK.sentence("Tiles are drawn from place 52 on, as long as the place is below 122 - (number of quads on the table,"
                + " which are those that are completed); how many such places are left is LEFT.");
        int[] marks = Scene.kinds("1p 3p 6p 7p 8p");
        for (int quads = 0; quads <= 4; quads++) {
            RiichiTable table = withQuads(quadScene().put(117, "1p 3p 6p 7p 8p"), quads);
            for (int left = 67 - quads; left > 0; left--) {
                CHECK.due("left with " + quads + " quads", table.table(4), left);
                Scene.letGoDrawn(table, 1);
            }
            CHECK.due("none is left", table.table(4), 0);
            CHECK.due("a turn all the same", table.phase(), 1);
            CHECK.due("the last place with " + quads + " quads", table.drawn(), marks[4 - quads]);
            Scene.letGoDrawn(table, 1);
            CHECK.due("drawn out", table.phase(), 3);
            CHECK.due("left when it is over", table.table(4), 0);
        }
    }

    private static void completedQuads() {
        CHECK.sentence("number of quads on the table, which are those that are completed");
        RiichiTable table = Phases.at(Phases.ADDED);
        int left = table.table(4);
        CHECK.due("not yet one", table.table(5), 0);
        CHECK.due("left", left, 65);
        table.claim(2, 0, 0);
        CHECK.due("completed", table.table(5), 1);
        CHECK.due("one place less", table.table(4), left - 1);
        table = Phases.at(Phases.ADDED);
        table.claim(2, 4, 0);
        CHECK.due("robbed", table.table(5), 0);
        CHECK.due("no place less", table.table(4), left);
    }

    private static void replacements() {
        CHECK.sentence("REPLACEMENTS come from place 135, then 134, 133, 132.");
        RiichiTable table = new Scene().hand(0, "1111z 2222z 3333z 9m").hand(1, "5555z 14m 25p 69s 7s 9m 4s").draws("4z 7z")
                .put(132, "1s 2s 3s 8s").deal();
        String[] want = {"8s", "3s", "2s"};
        for (int i = 0; i < 3; i++) {
            table.quad(27 + i);
            CHECK.due("replacement " + i, table.drawn(), k(want[i]));
        }
        Scene.letGo(table, k("4z"));
        table.quad(k("5z"));
        CHECK.due("replacement 3", table.drawn(), k("1s"));
    }

    /** One indicator tells 9p, of which player 2 has two; the others tell nothing. */
    private static void indicators() {
        CHECK.sentence("INDICATORS that are turned up are the tiles at 131 - 2 k, UNDER them lie those at 130 - 2 k,"
                + " for k = 0 .. number of quads on the table.");
        for (int quads = 0; quads <= 4; quads++) {
            for (int place = 122; place < 132; place++) {
                for (int riichi = 0; riichi < 2; riichi++) {
                    boolean under = place % 2 == 0;
                    int at = (131 - place) / 2;
                    boolean counts = at <= quads && (!under || riichi == 1);
                    int han = riichi == 0 ? 1 : quads == 0 ? 4 : 3;
                    RiichiTable table = withQuads(quadScene().put(122, "1111s 2222s 88s").put(place, "8p"), quads);
                    table.discard(k("4z"), riichi == 1);
                    table.discard(k("5s"), false);
                    CHECK.due("an option", table.options(2) & 16, 16);
                    table.claim(2, 4, 0);
                    Scene.pass(table);
                    CHECK.due("han with " + quads + " quads, place " + place + ", riichi " + riichi,
                            table.worth(2, 0), han + (counts ? 2 : 0));
                }
            }
        }
    }

    private static void dora() {
        CHECK.sentence("the next kind in its suit (rank 1 behind 9), the next wind (east behind north),"
                + " the next dragon (white behind red).");
        String[] rows = {"1234567891m", "1234567891p", "1234567891s", "12341z", "5675z"};
        for (String row : rows) {
            int[] kinds = Scene.kinds(row);
            for (int i = 0; i + 1 < kinds.length; i++) {
                for (int kind : new int[] {kinds[i + 1], kinds[i], (kinds[i] + 1) % 34, (kinds[i] + 33) % 34}) {
                    CHECK.due("indicator " + kinds[i] + ", a pair of " + kind, hanOfPairs(kinds[i], kind), kind == kinds[i + 1] ? 4 : 2);
                }
            }
        }
    }

    /** Seven pairs, one of them of the kind, without any other yaku. */
    private static int hanOfPairs(int indicator, int kind) {
        String[] others = {"2m", "9m", "5p", "3s", "8s", "3z", "6z", "1p", "5m"};
        StringBuilder hand = new StringBuilder(Scene.text(kind)).append(Scene.text(kind));
        int used = 0;
        for (String other : others) {
            boolean told = PlainTable.dora(indicator) == k(other);
            if (used < 6 && k(other) != kind && !told) {
                hand.append(used < 5 ? other + other : other);
                used++;
            }
        }
        int[] all = Scene.kinds(hand.toString());
        HandScene scene = new HandScene(1, hand.toString(), "", Scene.text(all[12]), false).indicators(Scene.text(indicator));
        RiichiTable table = scene.play();
        CHECK.due(hand + " is won", scene.win(table), true);
        CHECK.due(hand + " is seven pairs alone", table.yaku(1), Check.bits(26));
        return table.worth(1, 0);
    }

    private static void newObject() {
        CHECK.sentence("A game in phase WALL, its wall shuffled.");
        for (int seed : SEEDS) CHECK.due("phase of seed " + seed, new RiichiTable(seed).phase(), 0);
        boolean inOrder = true;
        for (int kind = 0; kind < 3; kind++) {
            RiichiTable table = new RiichiTable(1);
            table.deal();
            inOrder &= table.concealed(0, kind) == 4;
        }
        CHECK.due("in order", inOrder, false);
    }

    private static void arranged() {
        CHECK.sentence("the tile at a place changes places with the first tile of a kind at that place or behind it.");
        for (int seed : SEEDS) {
            for (int place = 0; place < 52; place += 3) {
                for (int kind = place % 2; kind < 34; kind += 11) {
                    RiichiTable table = new RiichiTable(seed);
                    PlainTable plain = new PlainTable(seed);
                    String name = "seed " + seed + " arrange(" + place + ", " + kind + ")";
                    CHECK.due(name, table.arrange(place, kind), plain.arrange(place, kind));
                    table.deal();
                    plain.deal();
                    for (int p = 0; p < 4; p++) {
                        for (int i = 0; i < 34; i++) CHECK.due(name + " hands", table.concealed(p, i), plain.seats[p].count(i));
                    }
                    CHECK.due(name + " drawn", table.drawn(), plain.tile);
                }
            }
        }
        // What is there already stays, at the first and at the last place.
        for (int place : new int[] {0, 135}) {
            int there = new PlainTable(1).wall[place] / 4;
            RiichiTable table = new RiichiTable(1);
            for (int i = 0; i < 3; i++) CHECK.due("place " + place + " has it", table.arrange(place, there), true);
            CHECK.due("and the other end is as it was", table.arrange(135, new PlainTable(1).wall[135] / 4), true);
        }
    }

    private static void notArranged() {
        CHECK.sentence("False in another phase, when place is not 0 .. 135, kind not 0 .. 33, or there is no such tile.");
        for (int which = 0; which < Phases.MANY; which++) {
            RiichiTable table = Phases.at(which);
            CHECK.due("in phase " + which, table.arrange(0, 0) || table.arrange(60, 20), which == Phases.WALL);
        }
        RiichiTable table = new RiichiTable(5);
        for (int place : new int[] {Integer.MIN_VALUE, -1, 136, Integer.MAX_VALUE}) {
            for (int kind = 0; kind < 34; kind++) CHECK.due("place " + place, table.arrange(place, kind), false);
        }
        for (int kind : new int[] {Integer.MIN_VALUE, -1, 34, Integer.MAX_VALUE}) {
            for (int place = 0; place < 136; place += 45) CHECK.due("kind " + kind, table.arrange(place, kind), false);
        }
        for (int kind : new int[] {0, 33}) {
            table = new RiichiTable(5);
            for (int place = 0; place < 4; place++) CHECK.due("kind " + kind, table.arrange(place, kind), true);
            CHECK.due("all are before it", table.arrange(4, kind), false);
            CHECK.due("one is there", table.arrange(3, kind), true);
        }
        int last = 0;
        for (int kind = 0; kind < 34; kind++) last += table.arrange(135, kind) ? 1 : 0;
        CHECK.due("one kind is at the last place", last, 1);
    }

    private static void notDealt() {
        CHECK.sentence("WALL: deals, and the dealer draws.");
        for (int which = 0; which < Phases.MANY; which++) {
            RiichiTable table = Phases.at(which);
            CHECK.due("deal in phase " + which, table.deal(), which == Phases.WALL);
            CHECK.due("phase then", table.phase(), which == Phases.WALL ? 1 : Phases.phaseOf(which));
        }

        CHECK.sentence("The dealer draws first.");
        for (int dealer = 0; dealer < 4; dealer++) {
            RiichiTable table = Scene.before(dealer);
            table.deal();
            CHECK.due("who draws", table.who(), dealer);
            CHECK.due("left", table.table(4), 69);
            CHECK.due("something is drawn", table.concealed(dealer, table.drawn()) > 0, true);
        }
    }

    private static void state() {
        CHECK.sentence("The generator's state.");
        PlainTable plain = new PlainTable(9);
        RiichiTable table = new RiichiTable(9);
        CHECK.due("new", table.state(), plain.x);
        table.arrange(0, 5);
        Scene.orphansDrawn(table, 1);
        CHECK.due("at the end of a hand", table.state(), plain.x);
        table.next();
        plain.phase = 3;
        plain.next();
        CHECK.due("of the next wall", table.state(), plain.x);
        CHECK.due("no second wall", table.next(), false);
        CHECK.due("as it was", table.state(), plain.x);
    }
}
