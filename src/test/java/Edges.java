import java.lang.reflect.InvocationTargetException;
import java.lang.reflect.Method;
import java.util.List;
import java.util.function.Consumer;
import java.util.function.Function;
import java.util.function.Supplier;

/**
 * What the tests of boundary cases share: each test stands for one sentence of the document, a call is made
 * by its name, and behind a refused call an object is compared with a twin that did not see it.
 */
abstract class Edges {
    static final String INDEX = "IndexOutOfBoundsException";
    static final String ARGUMENT = "IllegalArgumentException";
    static final String STATE = "IllegalStateException";
    static final int LOW = Integer.MIN_VALUE;
    static final int HIGH = Integer.MAX_VALUE;
    static final int NONE = BacklotPlanner.NONE;
    static final int ANY = BacklotPlanner.ANY;
    static final int PLANNED = BacklotPlanner.PLANNED;
    static final int SHOT = BacklotPlanner.SHOT;
    static final int CUT = BacklotPlanner.CUT;

    static final Supplier<BacklotPlanner> EMPTY = BacklotPlanner::new;

    // Each one is a look of its own, so that no object sees more than the 512 calls that are promised.
    private static final List<Function<BacklotPlanner, String>> LOOKS = List.of(
            Edges::lookAtScenes, Edges::lookAtCounts, Edges::lookAtPermission, Edges::lookAtAbsence,
            Edges::lookAtCast, Edges::lookAtPermits, Edges::lookAtShooting, Edges::lookAtPlanning);

    private static String sentence = "";
    private static int sentences = 0;
    private static int checks = 0;
    private static int wrong = 0;

    /** The test of one sentence; the number ahead of its words is that of the promise, if it has one. */
    static void sentence(String words, Runnable test) {
        sentence = words;
        sentences++;
        int before = checks;
        try {
            test.run();
        } catch (RuntimeException thrown) {
            complain("the test itself ended by " + thrown);
        }
        if (checks == before) {
            complain("the test checks nothing");
        }
    }

    static void end() {
        System.out.println(sentences + " sentences, " + checks + " checks, " + wrong + " wrong");
        if (wrong != 0 || sentences == 0) {
            System.exit(1);
        }
    }

    /** An object on which these calls were made, a new one for each time it is asked for. */
    static Supplier<BacklotPlanner> after(Consumer<BacklotPlanner> calls) {
        return () -> {
            BacklotPlanner x = new BacklotPlanner();
            calls.accept(x);
            return x;
        };
    }

    static void scenes(BacklotPlanner x, int count) {
        for (int i = 0; i < count; i++) {
            x.scene(0, 0);
        }
    }

    static void shoot(BacklotPlanner x, int days) {
        for (int i = 0; i < days; i++) {
            x.shoot();
        }
    }

    /** Lets an actor play in a scene who is away on each day but those that are named. */
    static void onlyOn(BacklotPlanner x, int scene, int actor, int... days) {
        x.plays(scene, actor, ANY);
        for (int day = 0; day < 30; day++) {
            x.away(actor, day, true);
        }
        for (int day : days) {
            x.away(actor, day, false);
        }
    }

    static void due(BacklotPlanner x, Object want, String call, Object... args) {
        is(text(call, args), answer(x, call, args), want);
    }

    static void is(String what, Object got, Object want) {
        checks++;
        if (!got.equals(want)) {
            complain(what + ": " + got + ", due is " + want);
        }
    }

    /** A call whose answer, an exception's name too, is due, and behind which nothing is changed. */
    static void changesNothing(Supplier<BacklotPlanner> start, Object want, String call, Object... args) {
        due(start.get(), want, call, args);
        for (Function<BacklotPlanner, String> look : LOOKS) {
            BacklotPlanner x = start.get();
            answer(x, call, args);
            same(x, start.get(), look, text(call, args));
        }
    }

    private static void same(BacklotPlanner x, BacklotPlanner twin, Function<BacklotPlanner, String> look, String call) {
        is("the look behind " + call, look.apply(x), look.apply(twin));
    }

    private static void complain(String what) {
        wrong++;
        System.out.println("[" + sentence + "] " + what);
    }

    private static String text(String call, Object[] args) {
        StringBuilder text = new StringBuilder(call).append('(');
        for (int i = 0; i < args.length; i++) {
            text.append(i == 0 ? "" : ", ").append(args[i]);
        }
        return text.append(')').toString();
    }

    private static Object answer(BacklotPlanner x, String call, Object... args) {
        try {
            return method(call).invoke(x, args);
        } catch (InvocationTargetException thrown) {
            return thrown.getCause().getClass().getSimpleName();
        } catch (IllegalAccessException | IllegalArgumentException thrown) {
            throw new IllegalStateException(text(call, args) + " can't be called", thrown);
        }
    }

    private static Method method(String call) {
        for (Method method : BacklotPlanner.class.getMethods()) {
            if (method.getName().equals(call)) {
                return method;
            }
        }
        throw new IllegalStateException("there is no call " + call);
    }

    private static void note(StringBuilder text, BacklotPlanner x, String call, Object... args) {
        text.append(answer(x, call, args)).append(' ');
    }

    private static String lookAtScenes(BacklotPlanner x) {
        StringBuilder text = new StringBuilder();
        for (int scene = 0; scene < 10; scene++) {
            note(text, x, "stateOf", scene);
            note(text, x, "dayOf", scene);
            for (int prop = 0; prop < 5; prop++) {
                note(text, x, "ahead", scene, prop);
            }
        }
        for (int day = 0; day < 30; day++) {
            note(text, x, "sceneOn", day);
        }
        return text.toString();
    }

    private static String lookAtCounts(BacklotPlanner x) {
        StringBuilder text = new StringBuilder();
        for (String call : new String[] {"today", "spent", "cost", "scenes", "refused", "least"}) {
            note(text, x, call);
        }
        for (int i = 0; i < 5; i++) {
            note(text, x, "growth", i);
            for (int state = 0; state < 4; state++) {
                note(text, x, "copies", i, state);
            }
        }
        return text.toString();
    }

    private static String lookAtPermission(BacklotPlanner x) {
        StringBuilder text = new StringBuilder();
        for (int scene = 0; scene < 10; scene++) {
            for (int day = 0; day < 30; day++) {
                note(text, x, "isAllowed", scene, day);
            }
        }
        return text.toString();
    }

    private static String lookAtAbsence(BacklotPlanner x) {
        StringBuilder text = new StringBuilder();
        for (int actor = 0; actor < 5; actor++) {
            for (int day = 0; day < 30; day++) {
                note(text, x, "away", actor, day, true);
            }
        }
        return text.toString();
    }

    /** Each actor is away on a day of his own, so that the days on which a scene is not allowed tell who plays. */
    private static String lookAtCast(BacklotPlanner x) {
        StringBuilder text = new StringBuilder();
        for (int actor = 0; actor < 5; actor++) {
            for (int other = 0; other < 5; other++) {
                x.away(other, 25 + actor, other == actor);
            }
        }
        for (int scene = 0; scene < 10; scene++) {
            for (int day = 25; day < 30; day++) {
                note(text, x, "isAllowed", scene, day);
            }
        }
        return text.toString();
    }

    private static String lookAtPermits(BacklotPlanner x) {
        StringBuilder text = new StringBuilder();
        note(text, x, "permit", 0, 0, 29, 9);
        for (int permit = 0; permit <= 20; permit++) {
            note(text, x, "revoke", permit);
        }
        return text.toString();
    }

    private static String lookAtShooting(BacklotPlanner x) {
        StringBuilder text = new StringBuilder();
        for (int day = 0; day < 31; day++) {
            note(text, x, "shoot");
            note(text, x, "spent");
            note(text, x, "growth", day % 5);
            note(text, x, "copies", day % 5, day % 4);
        }
        return text.toString();
    }

    private static String lookAtPlanning(BacklotPlanner x) {
        StringBuilder text = new StringBuilder();
        for (int scene = 0; scene < 10; scene++) {
            note(text, x, "plays", scene, scene % 5, ANY);
            note(text, x, "uses", scene, scene % 5, 1, 2);
        }
        note(text, x, "scene", 3, 1);
        note(text, x, "mend");
        note(text, x, "better");
        return text.append(lookAtScenes(x)).append(lookAtCounts(x)).toString();
    }
}
