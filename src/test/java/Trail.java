import java.lang.reflect.InvocationTargetException;
import java.lang.reflect.Method;
import java.lang.reflect.Modifier;
import java.util.ArrayList;
import java.util.HashMap;
import java.util.List;
import java.util.Map;
import java.util.TreeMap;

/**
 * An object with all calls that were made on it. Much of an object can only be seen by calls that change it, so its
 * parts are looked at in others on which the same calls were made.
 */
final class Trail {
    private static final int MOST_CALLS = 512;
    private static final Map<String, Method> FACE = face();
    /** Ten PAGES of ten HANDS, so that an ITEM from 0 to 9 can be told by who(). */
    private static final String TEN_HANDS = "h0,0;" + "g0,0,0;".repeat(10);

    private record Call(String name, int[] values) {
    }

    private final HandsInBook own = new HandsInBook();
    private final List<Call> calls = new ArrayList<>();

    private static Map<String, Method> face() {
        Map<String, Method> all = new HashMap<>();
        for (Method method : HandsInBook.class.getDeclaredMethods()) {
            if (Modifier.isPublic(method.getModifiers())) {
                all.put(method.getName(), method);
            }
        }
        return all;
    }

    static boolean knows(String name, int values) {
        return FACE.containsKey(name) && FACE.get(name).getParameterCount() == values;
    }

    long call(String name, int... values) {
        Call call = new Call(name, values);
        calls.add(call);
        if (calls.size() > MOST_CALLS) {
            throw new IllegalStateException("an object is used for 512 calls at most");
        }
        return make(own, call);
    }

    private static long make(HandsInBook x, Call call) {
        Object[] values = new Object[call.values().length];
        for (int i = 0; i < values.length; i++) {
            values[i] = call.values()[i];
        }
        try {
            return ((Number) FACE.get(call.name()).invoke(x, values)).longValue();
        } catch (InvocationTargetException e) {
            throw new IllegalStateException(call.name() + " threw " + e.getCause(), e);
        } catch (IllegalAccessException e) {
            throw new IllegalStateException(e);
        }
    }

    /** Another object on which the same calls were made. */
    HandsInBook again() {
        HandsInBook x = new HandsInBook();
        for (Call call : calls) {
            make(x, call);
        }
        return x;
    }

    /** Whether what is found is the same if it was also asked for behind each call that was made so far. */
    boolean isFoundAnew() {
        HandsInBook asked = new HandsInBook();
        for (Call call : calls) {
            make(asked, call);
            if (!call.name().equals("feed")) {
                asked.whole(0);
            }
        }
        return book(asked).equals(book(again()));
    }

    /** All that can be told of the object, part by part. */
    Map<String, String> parts() {
        Map<String, String> all = new TreeMap<>();
        HandsInBook x = again();
        all.put("status", "" + x.status());
        all.put("fault", "" + x.fault());
        all.put("trace", Check.traced(x));
        all.put("book", book(x));
        all.put("tape", tape());
        all.put("acts", acts());
        all.put("images", image(0) + " " + image(1));
        all.put("rows", rows());
        return all;
    }

    private static String book(HandsInBook x) {
        StringBuilder text = new StringBuilder(Check.state(x)).append(' ').append(Check.written(x));
        for (int page = 0; page < x.count(1); page++) {
            text.append(' ').append(x.page(page, 3));
        }
        for (int what = 1; what <= 4; what++) {
            text.append(' ').append(x.count(what));
        }
        for (int what = 0; what <= 8; what++) {
            text.append(' ').append(x.whole(what));
        }
        return text.toString();
    }

    private String tape() {
        HandsInBook read = again();
        int bytes = read.count(6);
        int answer = read.book();
        String told = answer < 0 ? "" + read.fault() : Check.state(read);
        return bytes + " " + answer + " " + told + " " + (again().say() == HandsInBook.NONE ? "no word" : "a word");
    }

    private String acts() {
        int many = again().count(5);
        StringBuilder text = new StringBuilder().append(many);
        for (int undone = 1; undone <= many + 1; undone++) {
            HandsInBook x = again();
            for (int i = 1; i < undone; i++) {
                x.undo();
            }
            text.append(' ').append(x.undo()).append(' ').append(Check.state(x));
        }
        return text.toString();
    }

    private String image(int k) {
        HandsInBook x = again();
        int answer = x.restore(k);
        return answer + " " + (answer == 1 ? Check.state(x) : "none");
    }

    private String rows() {
        StringBuilder text = new StringBuilder().append(again().count(0));
        for (int row = 0; row < 8; row++) {
            text.append(' ').append(row(row));
        }
        return text.toString();
    }

    /** A ROW: its LANE, how many ITEMS, then each from 0 to 9, a point for any other. */
    String row(int row) {
        int size = again().drop(row);
        if (size < 0) {
            return "-";
        }
        int lane = lane(row);
        StringBuilder text = new StringBuilder().append(lane).append(':').append(size).append(':');
        for (int first = 0; first < size; first += 10) {
            HandsInBook x = again();
            x.book();
            Check.feed(x, TEN_HANDS);
            x.book();
            for (int i = first; i < size && i < first + 10; i++) {
                text.append(item(x, row, i, lane));
            }
        }
        return text.toString();
    }

    private int lane(int row) {
        HandsInBook x = again();
        int other = (row + 1) % 8;
        for (int lane = 0; lane <= 2; lane++) {
            x.row(other, lane, 0);
            if (x.copy(row, 0, other, 0, 0) == 0) {
                return lane;
            }
        }
        throw new IllegalStateException("a ROW has a LANE");
    }

    private static String item(HandsInBook x, int row, int i, int lane) {
        int other = (row + 1) % 8;
        x.row(other, lane, 10);
        for (int hand = 0; hand < 10; hand++) {
            x.copy(row, i, other, hand, 1);
            if (x.who(0, 0, other, 0, hand + 1) > 0) {
                return "" + hand;
            }
            x.set(other, hand, hand);
        }
        return ".";
    }
}
