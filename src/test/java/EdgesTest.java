import java.lang.reflect.InvocationTargetException;
import java.lang.reflect.Method;
import java.lang.reflect.Modifier;
import java.util.ArrayList;
import java.util.List;

/** All promises: each call with numbers at and beyond every edge, in BOOKS of no, one and ten PAGES: nothing throws. */
public final class EdgesTest {
    private static final int[] EDGES = {Integer.MIN_VALUE, -1, 0, 1, 2, 3, 5, 6, 9, 10, 11, 20, 21, 30, 31, 40, 41, 60,
        61, 255, 256, 1023, 1024, 999999, 1000000, Integer.MAX_VALUE};
    private static final int[] FEW = {Integer.MIN_VALUE, -1, 0, 1, 2, 4, 5, 6, 10, 31, Integer.MAX_VALUE};
    private static final Check check = new Check("EdgesTest");

    public static void main(String[] args) throws ReflectiveOperationException {
        String ten = "h5,3;p0,0,0;f5,0,9;r10,8,0;c15,0,0;g20,7,0;p25,0,0;f30,0,3;c0,0,0;g30,30,30;r0,30,0;";
        for (String text : new String[] {"", "h9,2;c3,4,5;", ten}) {
            for (Method method : HandsInBook.class.getDeclaredMethods()) {
                if (Modifier.isPublic(method.getModifiers())) {
                    callAll(method, text);
                }
            }
        }
        check.finish();
    }

    private static void callAll(Method method, String text) throws ReflectiveOperationException {
        int[] values = method.getParameterCount() > 2 ? FEW : EDGES;
        if (method.getParameterCount() == 5) {
            values = new int[] {-1, 0, 1, 4, 31, Integer.MAX_VALUE};
        }
        List<Object[]> all = new ArrayList<>();
        addAll(all, new Object[method.getParameterCount()], 0, values);
        HandsInBook x = null;
        Model m = null;
        for (int i = 0; i < all.size(); i++) {
            if (i % 40 == 0) {
                x = new HandsInBook();
                m = new Model();
                begin(x, m, text);
            }
            call(method, x, m, all.get(i), text);
            check.due("status behind it", x.status(), m.status());
            check.due("ACTS behind it", x.count(5), m.count(5));
            check.due("tape behind it", x.count(6), m.count(6));
        }
    }

    private static void addAll(List<Object[]> all, Object[] sofar, int at, int[] values) {
        if (at == sofar.length) {
            all.add(sofar.clone());
            return;
        }
        for (int v : values) {
            sofar[at] = v;
            addAll(all, sofar, at + 1, values);
        }
    }

    private static void begin(HandsInBook x, Model m, String text) {
        for (int i = 0; i < text.length(); i++) {
            x.feed(text.charAt(i));
            m.feed(text.charAt(i));
        }
        check.due("book " + text, x.book(), m.book());
        check.due("row", x.row(1, 0, 12), m.row(1, 0, 12));
        check.due("row", x.row(2, 1, 0), m.row(2, 1, 0));
        check.due("law", x.law(0, 6), m.law(0, 6));
        check.due("image", x.image(1), m.image(1));
    }

    private static void call(Method method, HandsInBook x, Model m, Object[] values, String text)
            throws ReflectiveOperationException {
        StringBuilder call = new StringBuilder(method.getName());
        for (Object v : values) {
            call.append(' ').append(v);
        }
        call.append(" of '").append(text).append("'");
        try {
            Number got = (Number) method.invoke(x, values);
            Method other = Model.class.getDeclaredMethod(method.getName(), method.getParameterTypes());
            check.due(call.toString(), got.longValue(), ((Number) other.invoke(m, values)).longValue());
        } catch (InvocationTargetException e) {
            check.holds(call + " threw " + e.getCause(), false);
        }
    }
}
