import java.io.IOException;
import java.lang.reflect.InvocationTargetException;
import java.lang.reflect.Method;
import java.nio.file.Files;
import java.nio.file.Path;
import java.util.ArrayList;
import java.util.Arrays;
import java.util.Comparator;
import java.util.List;
import java.util.function.Supplier;
import java.util.function.ToLongFunction;

/** Runs tests that bear the document's words, and holds refused calls against calls not made. */
abstract class Boundaries extends Help {
    static final int[] FAR = {Integer.MIN_VALUE, Integer.MIN_VALUE + 1, -65536, -256, 256, 65536, Integer.MAX_VALUE - 1, Integer.MAX_VALUE};

    /** Runs each test of a class; for each of the promises there must be one. */
    static void runAll(Class<?> tests, int... promises) throws IOException, IllegalAccessException {
        String document = Files.readString(Path.of("../shared/DOC.md"));
        List<Method> all = new ArrayList<>();
        for (Method method : tests.getDeclaredMethods()) {
            if (method.isAnnotationPresent(Says.class)) {
                all.add(method);
            }
        }
        all.sort(Comparator.comparingInt((Method m) -> m.getAnnotation(Says.class).promise()).thenComparing(Method::getName));
        for (int promise : promises) {
            due("tests of promise " + promise, all.stream().anyMatch(m -> m.getAnnotation(Says.class).promise() == promise) ? 1 : 0, 1);
        }
        for (Method method : all) {
            runOne(method, document);
        }
        within = "";
        end(all.size() + " boundaries hold");
    }

    private static void runOne(Method method, String document) throws IllegalAccessException {
        Says says = method.getAnnotation(Says.class);
        within = "promise " + says.promise() + ", " + method.getName() + " (\"" + says.words() + "\"): ";
        due("the words in the document", stands(document, says) ? 1 : 0, 1);
        try {
            method.setAccessible(true);
            method.invoke(null);
        } catch (InvocationTargetException thrown) {
            due("a call threw " + thrown.getCause() + ": this", 0, 1);
        }
    }

    /** Words of a promise stand below its heading, or ahead of all promises, where the terms are. */
    private static boolean stands(String document, Says says) {
        int terms = document.indexOf("## Promise 1:");
        if (terms < 0) {
            return false;
        }
        int from = document.indexOf("## Promise " + says.promise() + ":");
        int to = from < 0 ? -1 : document.indexOf("\n## ", from);
        String own = from < 0 ? "" : document.substring(from, to < 0 ? document.length() : to);
        return own.contains(says.words()) || document.substring(0, terms).contains(says.words());
    }

    /** A refused call answers as due, and all later calls as if it had not been made. */
    static void refused(String call, Supplier<RestGains> made, ToLongFunction<RestGains> refusal, long want) {
        RestGains x = made.get();
        due(call, refusal.applyAsLong(x), want);
        same("behind the refused " + call, x, made.get());
    }

    static void same(String name, RestGains x, RestGains y) {
        row(name, everything(x), everything(y));
    }

    /** All that calls tell of an object, by some 140 calls; its START and THE PAGE are gone then. */
    static long[] everything(RestGains x) {
        long[] plant = ofPlant(x);
        long[] told = Arrays.copyOf(plant, plant.length + 11);
        int at = plant.length;
        for (long count : counts(x)) {
            told[at++] = count;
        }
        told[at++] = x.fault();
        told[at++] = x.digest();
        for (int place = 0; place < 3; place++) {
            told[at++] = x.start(place, 0);
        }
        told[at++] = x.blank();
        return told;
    }

    /** What is told of the plant, its START and its plans, without what is counted. */
    static long[] ofPlant(RestGains x) {
        long[] told = new long[15 + 18 + 6 + 12 + 60 + 10 + 2 + 7];
        int at = 0;
        for (int what = 0; what < 15; what++) {
            told[at++] = x.has(what);
        }
        for (int what = 0; what < 6; what++) {
            told[at++] = x.about(what);
        }
        for (boolean second : new boolean[] {false, true}) {
            told[at++] = x.most(second);
            for (int i = 0; i < 9; i++) {
                told[at++] = x.row(second, i / 3, i % 3);
            }
            for (long number : gains(x, second, 3)) {
                told[at++] = number;
            }
            for (int ticks = 0; ticks < 5; ticks++) {
                for (long number : after(x, second, ticks, 3)) {
                    told[at++] = number;
                }
            }
        }
        for (int i = 0; i < 10; i++) {
            told[at++] = x.input(i / 2, i % 2);
        }
        for (long number : plan(x)) {
            told[at++] = number;
        }
        return told;
    }

    /** A text of a plant whose numbers are all the same. */
    static String flat(int order, int number) {
        StringBuilder text = new StringBuilder().append(order);
        for (int i = 0; i < order * order + 2 * order; i++) {
            boolean opens = i == 0 || i == order * order || i == order * order + order;
            text.append(opens ? ';' : ',').append(number);
        }
        return text.toString();
    }

    /** A START of 1000000 (or less than 0 as much) at each place of a plant of this order that only doubles and adds. */
    static RestGains million(int order, int sign) {
        RestGains x = planted(flat(order, 1));
        for (int i = 0; i < order * order; i++) {
            x.alter(3 * (i / order) + i % order, i / order == i % order ? 2 : 0);
        }
        for (int bit = 19; bit >= 0; bit--) {
            x.tick(sign * (1000000 >> bit & 1));
        }
        for (int place = 0; place < order; place++) {
            x.alter(4 * place, 1);
        }
        return x;
    }
}
