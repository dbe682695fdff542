import java.lang.reflect.Constructor;
import java.lang.reflect.Field;
import java.lang.reflect.Method;
import java.lang.reflect.Modifier;
import java.util.Set;
import java.util.TreeSet;

/** The public face, and promise 1: a new object. */
public final class FaceTest extends Checks {
    private static final String FACE = "known(II)I suit(III)I claim(III)I answer(IIZ)I proof(III)I truth(II)I of(II)I"
        + " feed(II)I law()I comes(I)I due(II)I paid(IZI)J all(III)J ends(III)J truly(I)I rolled(II)I best(II)I"
        + " slips(I)I wise(I)I off(III)J beside(III)I ways(III)I judge(III)I image()I undo()I act(III)I trace(I)I"
        + " taken(II)I count(I)I tape(III)I item(IIJ)I read(II)J shift(IIIII)I";

    private static String letter(Class<?> type) {
        return type == int.class ? "I" : type == long.class ? "J" : type == boolean.class ? "Z" : type.getName();
    }

    private static void theFace() {
        Set<String> found = new TreeSet<>();
        for (Method m : WhoMustSwear.class.getDeclaredMethods()) {
            if (Modifier.isPrivate(m.getModifiers())) continue;
            StringBuilder b = new StringBuilder(m.getName()).append('(');
            for (Class<?> p : m.getParameterTypes()) b.append(letter(p));
            found.add(b.append(')').append(letter(m.getReturnType())).toString());
            due(m.getName() + " is public", m.getModifiers(), Modifier.PUBLIC);
        }
        Set<String> asked = new TreeSet<>(Set.of(FACE.split(" ")));
        if (!found.equals(asked)) due("the methods " + found, 0, 1);
        Set<String> constants = new TreeSet<>();
        for (Field f : WhoMustSwear.class.getDeclaredFields()) {
            if (!Modifier.isPrivate(f.getModifiers())) constants.add(f.getName());
        }
        if (!constants.equals(new TreeSet<>(Set.of("NONE", "BAD", "STATE", "FULL", "NO")))) due("the constants " + constants, 0, 1);
        Constructor<?>[] made = WhoMustSwear.class.getDeclaredConstructors();
        due("constructors", made.length, 1);
        due("constructor's parameters", made[0].getParameterCount(), 0);
        due("constructor is public", made[0].getModifiers(), Modifier.PUBLIC);
        due("class", WhoMustSwear.class.getModifiers(), Modifier.PUBLIC | Modifier.FINAL);
    }

    private static void theConstants() {
        due("NONE", WhoMustSwear.NONE, -1);
        due("BAD", WhoMustSwear.BAD, -2);
        due("STATE", WhoMustSwear.STATE, -3);
        due("FULL", WhoMustSwear.FULL, -4);
        due("NO", WhoMustSwear.NO, Long.MIN_VALUE);
    }

    private static void aNewObject() {
        WhoMustSwear x = new WhoMustSwear();
        for (int what = 0; what < 5; what++) due("count(" + what + ")", x.count(what), 0);
        for (int p = 0; p < 8; p++) due("known(" + p + ", 0)", x.known(p, 0), 0);
        for (int t = 0; t < 6; t++) due("item(" + t + ", 0, 0)", x.item(t, 0, 0), -11);
        due("suit(0, 1, 0)", x.suit(0, 1, 0), -1);
        due("claim(0, 1, 0)", x.claim(0, 1, 0), -1);
        due("comes(0)", x.comes(0), -1);
        due("undo()", x.undo(), -3);
        due("trace(0)", x.trace(0), -1);
        WhoMustSwear first = suited("free a>0", 1);
        due("count(0) of the first", first.count(0), 1);
        due("count(0) of another", new WhoMustSwear().count(0), 0);
    }

    public static void main(String[] args) {
        theFace();
        theConstants();
        aNewObject();
        end("FaceTest");
    }
}
