import java.lang.reflect.Constructor;
import java.lang.reflect.Field;
import java.lang.reflect.Method;
import java.lang.reflect.Modifier;
import java.util.ArrayList;
import java.util.Collections;
import java.util.List;
import java.util.Random;

/** The public face as the document writes it; and that no arguments make a call throw. */
public final class FaceTest {
    private static final Check CHECK = new Check();
    private static final String[] FACE = {
        "boolean arrange(int,int)", "boolean deal()", "int discard(int,boolean)", "int quad(int)", "int win()",
        "int options(int)", "int claim(int,int,int)", "boolean next()", "int phase()", "int who()", "int drawn()",
        "int concealed(int,int)", "int meld(int,int)", "int river(int,int)", "long waits(int)", "boolean furiten(int)",
        "int points(int)", "int table(int)", "int worth(int,int)", "long yaku(int)", "int state()"
    };

    public static void main(String[] args) {
        face();
        anyArguments();
        CHECK.end();
    }

    private static void face() {
        CHECK.due("BAD", RiichiTable.BAD, -1);
        int kind = RiichiTable.class.getModifiers();
        CHECK.due("public and final", Modifier.isPublic(kind) && Modifier.isFinal(kind), true);
        List<String> found = new ArrayList<>();
        List<String> hidden = new ArrayList<>();
        for (Method m : RiichiTable.class.getDeclaredMethods()) {
            if (Modifier.isPublic(m.getModifiers())) found.add(text(m));
            else CHECK.due(m + " is private", Modifier.isPrivate(m.getModifiers()), true);
            if (Modifier.isPrivate(m.getModifiers())) hidden.add(m.getName());
        }
        Collections.sort(found);
        List<String> want = new ArrayList<>(List.of(FACE));
        Collections.sort(want);
        CHECK.due("methods are " + found + ", which", found.equals(want), true);
        for (String name : hidden) {
            for (String call : FACE) CHECK.due("private " + name + " is named like " + call, call.contains(" " + name + "("), false);
        }
        for (Field f : RiichiTable.class.getDeclaredFields()) {
            boolean bad = f.getName().equals("BAD");
            CHECK.due(f + " is private", Modifier.isPrivate(f.getModifiers()), !bad);
        }
        Constructor<?>[] makers = RiichiTable.class.getDeclaredConstructors();
        CHECK.due("constructors", makers.length, 1);
        CHECK.due("public constructor", Modifier.isPublic(makers[0].getModifiers()), true);
        for (Class<?> inner : RiichiTable.class.getDeclaredClasses()) {
            CHECK.due(inner + " is static", Modifier.isStatic(inner.getModifiers()), true);
            CHECK.due(inner + " is not public", Modifier.isPublic(inner.getModifiers()), false);
        }
    }

    private static String text(Method m) {
        StringBuilder line = new StringBuilder(m.getReturnType() + " " + m.getName() + "(");
        for (Class<?> type : m.getParameterTypes()) {
            if (line.charAt(line.length() - 1) != '(') line.append(',');
            line.append(type);
        }
        return line.append(')').toString();
    }

    private static int any(Random chance) {
        switch (chance.nextInt(12)) {
            case 0:
                return Integer.MIN_VALUE + chance.nextInt(3);
            case 1:
                return Integer.MAX_VALUE - chance.nextInt(3);
            case 2:
                return chance.nextInt();
            case 3:
                return chance.nextInt(200) - 50;
            case 4:
            case 5:
                return chance.nextInt(36) - 1;
            default:
                return chance.nextInt(7) - 1;
        }
    }

    private static void anyArguments() {
        Random chance = new Random(8);
        for (int game = 0; game < 400; game++) {
            RiichiTable table = new RiichiTable(any(chance));
            for (int call = 0; call < 300; call++) {
                change(table, chance);
                look(table, chance);
            }
            int sum = 1000 * table.table(3);
            for (int p = 0; p < 4; p++) sum += table.points(p);
            CHECK.due("points and sticks", sum, 120000);
        }
    }

    private static void change(RiichiTable table, Random chance) {
        int phase = table.phase();
        if (phase == 0 && chance.nextInt(20) == 0) table.deal();
        if (phase == 1) table.discard(chance.nextInt(34), chance.nextInt(4) == 0);
        if (phase == 2) table.claim(chance.nextInt(4), chance.nextInt(5), table.drawn() - chance.nextInt(3));
        if (phase == 3) table.next();
        switch (chance.nextInt(5)) {
            case 0:
                table.arrange(any(chance), any(chance));
                break;
            case 1:
                table.quad(any(chance));
                break;
            case 2:
                table.claim(any(chance), any(chance), any(chance));
                break;
            case 3:
                table.discard(any(chance), chance.nextBoolean());
                break;
            default:
                table.win();
        }
    }

    private static void look(RiichiTable table, Random chance) {
        int p = any(chance);
        boolean there = p >= 0 && p < 4;
        int i = any(chance);
        int held = table.concealed(p, i);
        CHECK.due("concealed", held >= 0 && held <= (there && i >= 0 && i < 34 ? 4 : 0), true);
        CHECK.due("meld", table.meld(p, i) >= -1 && (there || table.meld(p, i) == -1), true);
        CHECK.due("river", table.river(p, i) >= -1 && table.river(p, i) < 34 && (there || table.river(p, i) == -1), true);
        CHECK.due("waits", table.waits(p) >> 34 == 0 && (there || table.waits(p) == 0), true);
        CHECK.due("furiten", !table.furiten(p) || there, true);
        CHECK.due("points", there || table.points(p) == 0, true);
        CHECK.due("table", i < 0 || i > 5 ? table.table(i) == -1 : table.table(i) >= 0, true);
        CHECK.due("worth", table.worth(p, i) >= -1 && (there || table.worth(p, i) == -1), true);
        CHECK.due("yaku", there || table.yaku(p) == 0, true);
        CHECK.due("options", there ? table.options(p) >= 0 : table.options(p) == -1, true);
    }
}
