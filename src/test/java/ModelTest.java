import java.util.ArrayList;
import java.util.List;
import java.util.Random;
import java.util.TreeMap;

/**
 * Runs of calls chosen by fixed seeds, each answered by the class and by a slow model that is written
 * from the document in another way: every copy stands for itself, and every day of a plan is gone through.
 */
public final class ModelTest {
    private static final int RUNS = 6000;
    private static final int PROMISED = 512;
    // The calls of one look at the end of a run, so that no object sees more than those that are promised.
    private static final int LOOK = 250;
    private static final int[] ODD = {-1, -2, Integer.MIN_VALUE, Integer.MAX_VALUE, 30, 31, 10, 5, 4, 21, 20};

    private static final class Refusal extends RuntimeException {
        private static final long serialVersionUID = 1L;

        Refusal(String name) {
            super(name);
        }
    }

    private static void index(boolean isFine) {
        if (!isFine) {
            throw new Refusal("IndexOutOfBoundsException");
        }
    }

    private static void argument(boolean isFine) {
        if (!isFine) {
            throw new Refusal("IllegalArgumentException");
        }
    }

    private static void state(boolean isFine) {
        if (!isFine) {
            throw new Refusal("IllegalStateException");
        }
    }

    private static boolean within(int value, int low, int high) {
        return low <= value && value <= high;
    }

    private static final class Take {
        int set;
        int flames;
        int state = 0;
        int day;
        TreeMap<Integer, Integer> cast = new TreeMap<>();
        TreeMap<Integer, int[]> props = new TreeMap<>();
    }

    private static final class World {
        List<List<Integer>> copies = new ArrayList<>();
        int[] growth = new int[5];
        int lastSet = -1;

        World() {
            for (int prop = 0; prop < 5; prop++) {
                copies.add(new ArrayList<>());
            }
        }

        World twin() {
            World twin = new World();
            for (int prop = 0; prop < 5; prop++) {
                twin.copies.get(prop).addAll(copies.get(prop));
            }
            twin.growth = growth.clone();
            twin.lastSet = lastSet;
            return twin;
        }

        int film(Take take) {
            int total = 0;
            if (lastSet >= 0 && lastSet != take.set) {
                total += 2;
            }
            lastSet = take.set;
            for (int actor : take.cast.keySet()) {
                int beard = take.cast.get(actor);
                if (beard == 0) {
                    growth[actor] = 0;
                } else if (beard > 0 && growth[actor] < beard) {
                    total += 3;
                }
            }
            for (int prop : take.props.keySet()) {
                total += serve(copies.get(prop), take.props.get(prop)[0], take.props.get(prop)[1]);
            }
            return total;
        }

        private int serve(List<Integer> owned, int from, int to) {
            int total = 0;
            for (int wanted = from; wanted >= 0; wanted--) {
                int at = owned.indexOf(wanted);
                if (at >= 0) {
                    owned.set(at, to);
                    return from - wanted;
                }
            }
            owned.add(to);
            return total + 5 + from;
        }

        void night() {
            for (int actor = 0; actor < 5; actor++) {
                growth[actor] = growth[actor] == 20 ? 20 : growth[actor] + 1;
            }
        }

        int count(int prop, int state) {
            int count = 0;
            for (int copy : copies.get(prop)) {
                count += copy == state ? 1 : 0;
            }
            return count;
        }
    }

    private static final class Model {
        final List<Take> takes = new ArrayList<>();
        final List<int[]> permits = new ArrayList<>();
        final boolean[][] away = new boolean[5][30];
        final World world = new World();
        int today = 0;
        int spent = 0;

        Take on(int day) {
            for (Take take : takes) {
                if (take.state == 0 && take.day == day) {
                    return take;
                }
            }
            return null;
        }

        int planned() {
            int count = 0;
            for (Take take : takes) {
                count += take.state == 0 ? 1 : 0;
            }
            return count;
        }

        boolean allowed(Take take, int day) {
            boolean isPermitted = take.flames == 0;
            for (int[] permit : permits) {
                boolean isFor = permit[0] == take.set && within(day, permit[1], permit[2]);
                isPermitted |= permit[4] == 0 && isFor && permit[3] >= take.flames;
            }
            for (int actor : take.cast.keySet()) {
                isPermitted &= !away[actor][day];
            }
            return isPermitted;
        }

        int refused() {
            int count = 0;
            for (Take take : takes) {
                count += take.state == 0 && !allowed(take, take.day) ? 1 : 0;
            }
            return count;
        }

        int cost() {
            World twin = world.twin();
            int total = 0;
            for (int day = today; day <= 29; day++) {
                Take take = on(day);
                if (take != null) {
                    total += twin.film(take) + (allowed(take, day) ? 0 : 20);
                }
                twin.night();
            }
            return total;
        }

        void exchange(int one, int other) {
            Take first = on(one);
            Take second = on(other);
            if (first != null) {
                first.day = other;
            }
            if (second != null) {
                second.day = one;
            }
        }

        int costWith(int one, int other) {
            exchange(one, other);
            int total = cost();
            exchange(one, other);
            return total;
        }

        Take take(int number) {
            index(within(number, 0, takes.size() - 1));
            return takes.get(number);
        }

        int scene(int set, int flames) {
            argument(within(set, 0, 3) && within(flames, 0, 9));
            int day = today;
            for (Take take : takes) {
                day = take.state == 0 ? Math.max(day, take.day + 1) : day;
            }
            state(takes.size() < 10 && day <= 29);
            Take take = new Take();
            take.set = set;
            take.flames = flames;
            take.day = day;
            takes.add(take);
            return takes.size() - 1;
        }

        int plays(int scene, int actor, int beard) {
            Take take = take(scene);
            index(within(actor, 0, 4));
            argument(within(beard, -1, 20));
            state(take.state == 0);
            take.cast.put(actor, beard);
            return take.cast.size();
        }

        int uses(int scene, int prop, int from, int to) {
            Take take = take(scene);
            index(within(prop, 0, 4));
            argument(within(from, 0, 3) && within(to, from, 3));
            state(take.state == 0);
            int[] before = take.props.put(prop, new int[] {from, to});
            int reached = 0;
            boolean isForwards = true;
            for (Take next : takes) {
                if (next.state != 2 && next.props.containsKey(prop)) {
                    isForwards &= next.props.get(prop)[0] >= reached;
                    reached = next.props.get(prop)[1];
                }
            }
            if (!isForwards && before == null) {
                take.props.remove(prop);
            } else if (!isForwards) {
                take.props.put(prop, before);
            }
            state(isForwards);
            return take.props.size();
        }

        int cut(int scene) {
            Take take = take(scene);
            state(take.state == 0);
            take.state = 2;
            return take.day;
        }

        int swap(int one, int other) {
            argument(within(one, today, 29) && within(other, today, 29));
            exchange(one, other);
            return cost();
        }

        int permit(int set, int from, int to, int flames) {
            argument(within(set, 0, 3) && within(from, 0, 29) && within(to, from, 29) && within(flames, 1, 9));
            state(permits.size() < 20);
            permits.add(new int[] {set, from, to, flames, 0});
            return permits.size() - 1;
        }

        int revoke(int permit) {
            index(within(permit, 0, permits.size() - 1));
            state(permits.get(permit)[4] == 0);
            int before = refused();
            permits.get(permit)[4] = 1;
            return refused() - before;
        }

        int away(int actor, int day, boolean isAway) {
            index(within(actor, 0, 4));
            argument(within(day, 0, 29));
            boolean was = away[actor][day];
            away[actor][day] = isAway;
            return was ? 1 : 0;
        }

        int buy(int prop) {
            index(within(prop, 0, 4));
            state(world.copies.get(prop).size() < 20);
            world.copies.get(prop).add(0);
            spent += 5;
            return world.copies.get(prop).size();
        }

        int clear() {
            int count = 0;
            for (List<Integer> owned : world.copies) {
                int before = owned.size();
                owned.removeIf(copy -> copy == 3);
                count += before - owned.size();
            }
            return count;
        }

        int mishap(int prop, int state) {
            index(within(prop, 0, 4));
            argument(within(state, 0, 2));
            int at = world.copies.get(prop).indexOf(state);
            state(at >= 0);
            world.copies.get(prop).set(at, 3);
            return world.count(prop, 3);
        }

        int shoot() {
            state(today < 30);
            Take take = on(today);
            int shot = -1;
            if (take != null && allowed(take, today)) {
                take.state = 1;
                spent += world.film(take);
                shot = takes.indexOf(take);
            } else if (take != null) {
                int later = today + 1;
                while (later < 30 && on(later) != null) {
                    later++;
                }
                take.day = later;
                take.state = later < 30 ? 0 : 2;
            }
            world.night();
            today++;
            return shot;
        }

        int mend() {
            int made = 0;
            for (int day = today; day < 30; day++) {
                Take take = on(day);
                if (take == null || allowed(take, day)) {
                    continue;
                }
                int best = -1;
                for (int other = 29; other >= today; other--) {
                    Take back = on(other);
                    boolean mends = other != day && allowed(take, other) && (back == null || allowed(back, day));
                    if (mends && (best < 0 || costWith(day, other) <= costWith(day, best))) {
                        best = other;
                    }
                }
                if (best >= 0) {
                    exchange(day, best);
                    made++;
                }
            }
            return made;
        }

        int better() {
            int made = 0;
            while (true) {
                int least = cost();
                int[] best = null;
                for (int one = 29; one >= today; one--) {
                    for (int other = 29; other > one; other--) {
                        int total = costWith(one, other);
                        if (total < least || best != null && total == least) {
                            least = total;
                            best = new int[] {one, other};
                        }
                    }
                }
                if (best == null) {
                    return made;
                }
                exchange(best[0], best[1]);
                made++;
            }
        }

        int least() {
            state(planned() <= 5);
            List<Take> free = new ArrayList<>();
            List<Integer> days = new ArrayList<>();
            for (int day = today; day < 30; day++) {
                if (on(day) != null) {
                    free.add(on(day));
                    days.add(day);
                }
            }
            int least = leastOf(free, days, 0);
            for (int at = 0; at < days.size(); at++) {
                free.get(at).day = days.get(at);
            }
            return least;
        }

        private int leastOf(List<Take> free, List<Integer> days, int at) {
            if (at == days.size()) {
                return cost();
            }
            int least = Integer.MAX_VALUE;
            for (Take take : free) {
                List<Take> rest = new ArrayList<>(free);
                rest.remove(take);
                take.day = days.get(at);
                // those left have to stand somewhere else meanwhile
                for (int i = 0; i < rest.size(); i++) {
                    rest.get(i).day = days.get(at + 1 + i);
                }
                least = Math.min(least, leastOf(rest, days, at + 1));
                take.day = days.get(at);
            }
            return least;
        }

        int stateOf(int scene) {
            return take(scene).state;
        }

        int dayOf(int scene) {
            Take take = take(scene);
            return take.state == 2 ? -1 : take.day;
        }

        int sceneOn(int day) {
            argument(within(day, 0, 29));
            return takes.indexOf(on(day));
        }

        int isAllowed(int scene, int day) {
            Take take = take(scene);
            argument(within(day, 0, 29));
            return allowed(take, day) ? 1 : 0;
        }

        int ahead(int scene, int prop) {
            take(scene);
            index(within(prop, 0, 4));
            for (int before = scene - 1; before >= 0; before--) {
                Take take = takes.get(before);
                if (take.state != 2 && take.props.containsKey(prop)) {
                    return take.props.get(prop)[1];
                }
            }
            return 0;
        }

        int copies(int prop, int state) {
            index(within(prop, 0, 4));
            argument(within(state, 0, 3));
            return world.count(prop, state);
        }

        int growth(int actor) {
            index(within(actor, 0, 4));
            return world.growth[actor];
        }
    }

    private static final String[] CALLS = {
        "scene", "plays", "uses", "cut", "swap", "permit", "revoke", "away", "buy", "clear", "mishap", "shoot", "mend",
        "better", "least", "stateOf", "dayOf", "sceneOn", "isAllowed", "ahead", "copies", "growth",
        "today", "spent", "cost", "scenes", "refused",
    };
    private static final String[] QUESTIONS = {
        "cost", "cost", "spent", "refused", "today", "scenes", "sceneOn", "sceneOn", "dayOf", "dayOf", "stateOf",
        "isAllowed", "ahead", "copies", "copies", "growth",
    };
    private static final int[] WEIGHTS = {
        14, 22, 22, 3, 10, 10, 4, 8, 5, 2, 6, 16, 6,
        3, 4, 1, 1, 1, 1, 1, 1, 1,
        1, 1, 1, 1, 1,
    };

    private static int askModel(Model m, String call, int[] a) {
        switch (call) {
            case "scene": return m.scene(a[0], a[1]);
            case "plays": return m.plays(a[0], a[1], a[2]);
            case "uses": return m.uses(a[0], a[1], a[2], a[3]);
            case "cut": return m.cut(a[0]);
            case "swap": return m.swap(a[0], a[1]);
            case "permit": return m.permit(a[0], a[1], a[2], a[3]);
            case "revoke": return m.revoke(a[0]);
            case "away": return m.away(a[0], a[1], (a[2] & 1) != 0);
            case "buy": return m.buy(a[0]);
            case "clear": return m.clear();
            case "mishap": return m.mishap(a[0], a[1]);
            case "shoot": return m.shoot();
            case "mend": return m.mend();
            case "better": return m.better();
            case "least": return m.least();
            case "stateOf": return m.stateOf(a[0]);
            case "dayOf": return m.dayOf(a[0]);
            case "sceneOn": return m.sceneOn(a[0]);
            case "isAllowed": return m.isAllowed(a[0], a[1]);
            case "ahead": return m.ahead(a[0], a[1]);
            case "copies": return m.copies(a[0], a[1]);
            case "growth": return m.growth(a[0]);
            case "today": return m.today;
            case "spent": return m.spent;
            case "cost": return m.cost();
            case "scenes": return m.takes.size();
            default: return m.refused();
        }
    }

    private static int askClass(BacklotPlanner x, String call, int[] a) {
        switch (call) {
            case "scene": return x.scene(a[0], a[1]);
            case "plays": return x.plays(a[0], a[1], a[2]);
            case "uses": return x.uses(a[0], a[1], a[2], a[3]);
            case "cut": return x.cut(a[0]);
            case "swap": return x.swap(a[0], a[1]);
            case "permit": return x.permit(a[0], a[1], a[2], a[3]);
            case "revoke": return x.revoke(a[0]);
            case "away": return x.away(a[0], a[1], (a[2] & 1) != 0) ? 1 : 0;
            case "buy": return x.buy(a[0]);
            case "clear": return x.clear();
            case "mishap": return x.mishap(a[0], a[1]);
            case "shoot": return x.shoot();
            case "mend": return x.mend();
            case "better": return x.better();
            case "least": return x.least();
            case "stateOf": return x.stateOf(a[0]);
            case "dayOf": return x.dayOf(a[0]);
            case "sceneOn": return x.sceneOn(a[0]);
            case "isAllowed": return x.isAllowed(a[0], a[1]) ? 1 : 0;
            case "ahead": return x.ahead(a[0], a[1]);
            case "copies": return x.copies(a[0], a[1]);
            case "growth": return x.growth(a[0]);
            case "today": return x.today();
            case "spent": return x.spent();
            case "cost": return x.cost();
            case "scenes": return x.scenes();
            default: return x.refused();
        }
    }

    private static String modelAnswer(Model m, String call, int... a) {
        try {
            return "" + askModel(m, call, a);
        } catch (Refusal refusal) {
            return "throws." + refusal.getMessage();
        }
    }

    // By the class's own name: a subclass that the machine throws is not what the document asks for.
    private static String classAnswer(BacklotPlanner x, String call, int... a) {
        try {
            return "" + askClass(x, call, a);
        } catch (RuntimeException thrown) {
            return "throws." + thrown.getClass().getSimpleName();
        }
    }

    private static String weighed(Random random) {
        int sum = 0;
        for (int weight : WEIGHTS) {
            sum += weight;
        }
        int at = random.nextInt(sum);
        int call = 0;
        while (at >= WEIGHTS[call]) {
            at -= WEIGHTS[call];
            call++;
        }
        return CALLS[call];
    }

    private static int some(Random random, int low, int high) {
        return random.nextInt(60) == 0 ? ODD[random.nextInt(ODD.length)] : low + random.nextInt(high - low + 1);
    }

    private static int[] arguments(Random random, String call, Model m, int lastDay) {
        int scene = some(random, 0, Math.max(0, m.takes.size() - 1));
        int day = some(random, Math.min(m.today, 29), Math.min(29, m.today + lastDay));
        switch (call) {
            case "scene": return new int[] {some(random, 0, 3), random.nextInt(2) == 0 ? 0 : some(random, 0, 9)};
            case "plays": return new int[] {scene, some(random, 0, 4), random.nextInt(2) == 0 ? some(random, -1, 3) : some(random, -1, 20)};
            case "uses": {
                int from = some(random, 0, 3);
                return new int[] {scene, some(random, 0, 4), from, some(random, Math.max(0, Math.min(from, 3)), 3)};
            }
            case "swap": return new int[] {day, some(random, Math.min(m.today, 29), Math.min(29, m.today + lastDay))};
            case "permit": {
                int from = some(random, 0, 29);
                return new int[] {some(random, 0, 3), from, some(random, Math.max(0, Math.min(from, 29)), 29), some(random, 1, 9)};
            }
            case "revoke": return new int[] {some(random, 0, Math.max(0, m.permits.size() - 1))};
            case "away": return new int[] {some(random, 0, 4), day, random.nextInt(4) == 0 ? 0 : 1};
            case "buy": case "growth": return new int[] {some(random, 0, 4)};
            case "mishap": return new int[] {some(random, 0, 4), some(random, 0, 2)};
            case "sceneOn": return new int[] {some(random, 0, 29)};
            case "isAllowed": return new int[] {scene, some(random, 0, 29)};
            case "ahead": return new int[] {scene, some(random, 0, 4)};
            case "copies": return new int[] {some(random, 0, 4), some(random, 0, 3)};
            default: return new int[] {scene};
        }
    }

    private static String compare(BacklotPlanner x, Model m, String call, int... a) {
        String due = modelAnswer(m, call, a);
        String got = classAnswer(x, call, a);
        return due.equals(got) ? "" : call + java.util.Arrays.toString(a) + " answered " + got + ", due is " + due;
    }

    private static String glance(BacklotPlanner x, Model m, Random random, int questions) {
        StringBuilder wrong = new StringBuilder();
        for (int i = 0; i < questions; i++) {
            String call = QUESTIONS[random.nextInt(QUESTIONS.length)];
            wrong.append(compare(x, m, call, arguments(random, call, m, 29)));
        }
        return wrong.toString();
    }

    private static String look(BacklotPlanner x, Model m) {
        StringBuilder wrong = new StringBuilder();
        for (String call : new String[] {"today", "spent", "cost", "scenes", "refused"}) {
            wrong.append(compare(x, m, call));
        }
        for (int scene = -1; scene <= m.takes.size(); scene++) {
            wrong.append(compare(x, m, "stateOf", scene)).append(compare(x, m, "dayOf", scene));
            for (int prop = 0; prop < 5; prop++) {
                wrong.append(compare(x, m, "ahead", scene, prop));
            }
        }
        for (int day = -1; day <= 30; day++) {
            wrong.append(compare(x, m, "sceneOn", day));
            for (int scene = day & 3; scene < m.takes.size(); scene += 4) {
                wrong.append(compare(x, m, "isAllowed", scene, day));
            }
        }
        for (int i = 0; i < 5; i++) {
            wrong.append(compare(x, m, "growth", i));
            for (int state = -1; state <= 4; state++) {
                wrong.append(compare(x, m, "copies", i, state));
            }
        }
        return wrong.toString();
    }

    private static boolean isRunRight(int seed) {
        Random random = new Random(seed);
        BacklotPlanner x = new BacklotPlanner();
        Model m = new Model();
        StringBuilder told = new StringBuilder();
        int calls = 20 + random.nextInt(180);
        int questions = (PROMISED - LOOK - calls) / calls;
        int lastDay = random.nextInt(2) == 0 ? 8 : 29;
        boolean isHasty = random.nextInt(3) == 0;
        for (int i = 1; i <= calls; i++) {
            String call = weighed(random);
            if (!isHasty && call.equals("shoot") && random.nextInt(3) != 0) {
                call = "plays";
            }
            int[] a = arguments(random, call, m, lastDay);
            told.append(call).append(java.util.Arrays.toString(a)).append(' ');
            String wrong = compare(x, m, call, a) + (i < calls ? glance(x, m, random, questions) : look(x, m));
            if (!wrong.isEmpty()) {
                System.out.println("seed " + seed + ": " + told + "\n  " + wrong);
                return false;
            }
        }
        return true;
    }

    public static void main(String[] args) {
        int runs = args.length > 0 ? Integer.parseInt(args[0]) : RUNS;
        int wrong = 0;
        for (int seed = 1; seed <= runs && wrong < 5; seed++) {
            wrong += isRunRight(seed) ? 0 : 1;
        }
        System.out.println(wrong == 0 ? runs + " runs are as the model answers" : wrong + " runs are not as the model answers");
        if (wrong != 0) {
            System.exit(1);
        }
    }
}
