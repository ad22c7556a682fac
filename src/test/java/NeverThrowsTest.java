import java.lang.reflect.InvocationTargetException;
import java.lang.reflect.Method;
import java.lang.reflect.Modifier;
import java.util.ArrayList;
import java.util.Arrays;
import java.util.List;
import java.util.Random;

/** Every call of the face with any numbers, far ones too, in states made by chance: none may throw. */
public final class NeverThrowsTest {
    private static final long[] FAR = {Integer.MIN_VALUE, Integer.MIN_VALUE + 1, -2, -1, 0, 1, 2, 3, 4, 5, 7, 8, 9, 16, 23, 24,
        60, 61, 99, 100, 300, 301, 900, 9999, 10000, 40319, 40320, 12345678, Integer.MAX_VALUE - 1, Integer.MAX_VALUE};

    public static void main(String[] args) throws Exception {
        List<Method> face = new ArrayList<>();
        for (Method m : RingChamber.class.getDeclaredMethods()) if (Modifier.isPublic(m.getModifiers())) face.add(m);
        face.sort((a, b) -> a.getName().compareTo(b.getName()));
        int thrown = 0;
        for (int run = 0; run < 300; run++) {
            Random r = new Random(run);
            RingChamber x = new RingChamber();
            for (int i = 0; i < 400; i++) {
                if (i % 100 == 0) Texts.book(x, Texts.book(r, 4 + r.nextInt(run % 10 == 0 ? 5 : 3)));
                if (i % 50 == 0) Texts.touch(x, Texts.touch(r, 1));
                if (i % 50 == 1) x.ring();
                Method m = face.get(r.nextInt(face.size()));
                Object[] given = new Object[m.getParameterCount()];
                for (int k = 0; k < given.length; k++) {
                    long v = r.nextInt(4) == 0 ? r.nextInt(10) : FAR[r.nextInt(FAR.length)];
                    given[k] = m.getParameterTypes()[k] == long.class ? (Object) v : (Object) (int) v;
                }
                try {
                    m.invoke(x, given);
                } catch (InvocationTargetException e) {
                    thrown++;
                    System.out.println("run " + run + ": " + m.getName() + Arrays.toString(given) + " threw " + e.getCause());
                }
            }
        }
        System.out.println("NeverThrowsTest: " + thrown + " thrown");
        if (thrown > 0) System.exit(1);
    }
}
