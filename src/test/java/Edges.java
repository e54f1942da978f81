import java.lang.reflect.InvocationTargetException;
import java.lang.reflect.Method;
import java.util.ArrayList;
import java.util.Arrays;
import java.util.Comparator;
import java.util.List;

/**
 * What the tests of boundary cases share. Such a test is a static method whose name begins with p and
 * the promise's number; its comment tells the sentence that it holds. BrokenTest shows of each that it
 * fails when the sentence is broken.
 */
final class Edges {
    /** Numbers that are those of no shot, hall, sort, mark or question, some with bits like those of one. */
    static final int[] FAR = {Integer.MIN_VALUE, Integer.MIN_VALUE + 1, -65, -64, -33, -32, -31, -3, 31, 32, 33, 64,
        65, 255, 256, 1 << 30, Integer.MAX_VALUE};

    private Edges() {
    }

    static List<Method> of(Class<?> tests) {
        List<Method> found = new ArrayList<>();
        for (Method m : tests.getDeclaredMethods()) {
            if (m.getName().matches("p[0-9][0-9].*")) {
                found.add(m);
            }
        }
        found.sort(Comparator.comparing(Method::getName));
        return found;
    }

    static void run(Class<?> tests) {
        for (Method m : of(tests)) {
            if (fails(m)) {
                System.out.println("-- in " + tests.getName() + "." + m.getName());
            }
        }
        Due.end();
    }

    static boolean fails(Method m) {
        int ahead = Due.wrong();
        try {
            m.invoke(null);
        } catch (InvocationTargetException e) {
            Due.due(m.getName() + " throws " + e.getCause(), 1, 0);
        } catch (IllegalAccessException e) {
            Due.due(m.getName() + " can't be called", 1, 0);
        }
        return Due.wrong() != ahead;
    }

    /** The numbers that are none of 0 to count - 1. */
    static int[] others(int count) {
        int[] all = Arrays.copyOf(FAR, FAR.length + 3);
        all[FAR.length] = -2;
        all[FAR.length + 1] = -1;
        all[FAR.length + 2] = count;
        return all;
    }

    /** So many shots, a, b, c, and so on, each of the sort 1 and one minute long. */
    static String shots(int count) {
        StringBuilder text = new StringBuilder();
        for (int i = 0; i < count; i++) {
            text.append("shot ").append((char) ('a' + i)).append(" sort 1 long 1;");
        }
        return text.toString();
    }

    /** So many halls, u, v, w, and so on, each told by what comes behind its name. */
    static String halls(int count, String rest) {
        StringBuilder text = new StringBuilder();
        for (int i = 0; i < count; i++) {
            text.append("hall ").append((char) ('u' + i)).append(' ').append(rest).append(';');
        }
        return text.toString();
    }

    /** The fault that is due: of this kind, at the place where the mark ^ (which is left out) stands. */
    static void countyFault(String marked, int kind) {
        CountyPrint x = new CountyPrint();
        Due.due("county of " + marked, Due.county(x, marked.replace("^", "")), kind + 16 * marked.indexOf('^'));
    }

    /** The same of a round, told in the county of hats. */
    static void roundFault(String marked, int kind) {
        CountyPrint x = Due.of(Counties.HATS);
        Due.due("round of " + marked, Due.round(x, marked.replace("^", "")), kind + 16 * marked.indexOf('^'));
    }

    /** A text of so many signs: this one, with blanks ahead of its last sign. */
    static String stretched(String text, int signs) {
        int last = text.length() - 1;
        return text.substring(0, last) + " ".repeat(signs - text.length()) + text.substring(last);
    }

    /** The county of hats, in which something of all that a county does away with has been done. */
    static CountyPrint busy() {
        CountyPrint x = Due.of(Counties.HATS);
        Due.due("round", Due.round(x, "turn;show;give bap hat;show;"), 0);
        for (int i = 0; i < 6; i++) {
            x.show();
        }
        x.trade(0, 2, 4);
        x.trade(1, 0, 2);
        x.turn();
        x.show();
        x.give(0, 0);
        x.see(1, false);
        x.see(3, true);
        for (int mark = 0; mark < 4; mark++) {
            x.mark(mark, false);
        }
        return x;
    }

    /** Every answer that can be had without a change, but how much can be undone and what is on the tape. */
    static String told(CountyPrint x) {
        StringBuilder all = new StringBuilder();
        for (int what = 0; what <= 8; what++) {
            all.append(" count ").append(x.count(what));
        }
        for (int shot = 0; shot < 10; shot++) {
            all.append("\nshot");
            for (int what = 0; what < 4; what++) {
                all.append(' ').append(x.shot(shot, what));
            }
            all.append(' ').append(x.gone(shot)).append(' ').append(x.kin(shot)).append(' ').append(x.where(shot))
                .append(' ').append(x.hoard(shot));
        }
        for (int hall = 0; hall < 6; hall++) {
            all.append("\nhall");
            for (int what = 0; what < 4; what++) {
                all.append(' ').append(x.hall(hall, what)).append(' ').append(x.shown(hall, what));
            }
            all.append(' ').append(x.minutes(hall)).append(' ').append(Due.saves(x, hall)).append(' ')
                .append(x.share(hall)).append(' ').append(x.taste(hall, 0)).append(' ').append(x.order(hall));
        }
        for (int what = 0; what < 3; what++) {
            all.append("\nwhat ").append(x.judged(what)).append(' ').append(x.other(what)).append(' ')
                .append(x.tours(77, 20, what));
        }
        all.append("\n").append(x.silly()).append(' ').append(x.lasts()).append(' ').append(x.sense()).append(' ')
            .append(x.longest()).append(' ').append(x.order(-1)).append(' ').append(x.ride()).append(' ')
            .append(x.mends()).append(' ').append(x.mild()).append(' ').append(x.halls()).append(' ').append(x.ask());
        return all.toString();
    }

    static void alike(String call, String got, String want) {
        Due.due(call + ": " + got + "\n is alike to " + want, got.equals(want), true);
    }
}
