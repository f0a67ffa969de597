/** What the tests share: how many answers were wrong, and objects with a page or a plant. */
abstract class Help {
    static final long NONE = -10000000000001L;
    static final long UNKNOWN = -10000000000002L;
    static final long OUTSIDE = -10000000000003L;
    static final long STATE = -10000000000004L;
    static final long FULL = -10000000000005L;

    static final String SHIFT = "2;1,1,0,1;0,1;1,0";
    static final String THREE = "3;1,2,0,0,1,2,2,0,1;0,0,2;1,1,0";
    static final String LONGEST = "3;-1,-1,-1,-1,-1,-1,-1,-1,-1;-2,-2,-2;-1,-2,-1";

    /** What is told ahead of each wrong answer. */
    static String within = "";
    static int wrong = 0;

    static void due(String call, long got, long want) {
        if (got != want) {
            wrong++;
            System.out.println(within + call + " answered " + got + ", due is " + want);
        }
    }

    static void row(String name, long[] got, long... want) {
        due(name + ", how many", got.length, want.length);
        for (int i = 0; i < Math.min(got.length, want.length); i++) {
            due(name + " " + i, got[i], want[i]);
        }
    }

    static void end(String fine) {
        System.out.println(wrong == 0 ? fine : wrong + " answers are not as due");
        if (wrong != 0) {
            System.exit(1);
        }
    }

    static RestGains write(RestGains x, String text) {
        for (int i = 0; i < text.length(); i++) {
            x.letter(text.charAt(i));
        }
        return x;
    }

    static RestGains written(String text) {
        return write(new RestGains(), text);
    }

    static RestGains planted(String text, int... start) {
        RestGains x = written(text);
        due("plant of " + text, x.plant(), text.charAt(0) - '0');
        return started(x, start);
    }

    static RestGains started(RestGains x, int... start) {
        for (int place = 0; place < start.length; place++) {
            x.start(place, start[place]);
        }
        return x;
    }

    /** Above, below, above, below .. of the gains. */
    static long[] gains(RestGains x, boolean watcher, int order) {
        long[] all = new long[2 * order];
        for (int i = 0; i < all.length; i++) {
            all[i] = x.gain(watcher, i / 2, i % 2);
        }
        return all;
    }

    static long[] after(RestGains x, boolean watcher, int ticks, int order) {
        long[] all = new long[2 * order];
        for (int i = 0; i < all.length; i++) {
            all[i] = x.after(watcher, ticks, i / 2, i % 2);
        }
        return all;
    }

    /** How many ticks, and the six inputs. */
    static long[] plan(RestGains x) {
        long[] all = new long[7];
        all[0] = x.plan(0);
        for (int i = 1; i < all.length; i++) {
            all[i] = x.plan(9 + i);
        }
        return all;
    }

    static long[] counts(RestGains x) {
        long[] all = new long[5];
        for (int i = 0; i < all.length; i++) {
            all[i] = x.count(i);
        }
        return all;
    }

    static long fold(long... numbers) {
        long h = 1721;
        for (long number : numbers) {
            h = 31 * h + number;
        }
        return h;
    }
}
