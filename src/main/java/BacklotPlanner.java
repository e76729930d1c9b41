import java.util.Arrays;

public final class BacklotPlanner {
    public static final int NONE = -1;
    public static final int ANY = -1;
    public static final int PLANNED = 0, SHOT = 1, CUT = 2;

    private static final int DAYS = 30;
    private static final int SETS = 4;
    private static final int PROPS = 5;
    private static final int ACTORS = 5;
    private static final int SCENES = 10;
    private static final int PERMITS = 20;
    private static final int STATES = 4;
    private static final int BROKEN = 3;
    private static final int MOST_FLAMES = 9;
    private static final int MOST_GROWTH = 20;
    private static final int MOST_BOUGHT = 20;
    private static final int MOST_ORDERED = 5;
    private static final int ABSENT = -2;

    private static final int NEW_COPY = 5;
    private static final int FALSE_BEARD = 3;
    private static final int OTHER_SET = 2;
    private static final int REFUSAL = 20;

    // Each swap lowers a cost that is below a thousand, so this bound is never met.
    private static final int ENOUGH_SWAPS = 1000000;

    private final Scene[] told = new Scene[SCENES];
    private final Scene[] plan = new Scene[DAYS];
    private final Permit[] permits = new Permit[PERMITS];
    private final int[] awayDays = new int[ACTORS];
    private final Studio studio = new Studio();
    private final Studio trial = new Studio();
    private final Orders orders = new Orders();
    private int toldCount = 0;
    private int permitCount = 0;
    private int now = 0;
    private int paid = 0;

    public BacklotPlanner() {
    }

    // ---- scenes

    public int scene(int set, int flames) throws IllegalArgumentException, IllegalStateException {
        if (set < 0 || set >= SETS || flames < 0 || flames > MOST_FLAMES) {
            throw new IllegalArgumentException("no such set or number of flames");
        }
        int day = dayBehindPlan();
        if (toldCount >= told.length || day >= plan.length) {
            throw new IllegalStateException("no room for a scene");
        }
        Scene added = new Scene(toldCount, set, flames);
        told[toldCount] = added;
        toldCount++;
        plan[day] = added;
        return added.number;
    }

    public int plays(int scene, int actor, int beard)
            throws IndexOutOfBoundsException, IllegalArgumentException, IllegalStateException {
        Scene played = sceneNumbered(scene);
        requireActor(actor);
        if (beard < ANY || beard > MOST_GROWTH) {
            throw new IllegalArgumentException("no such beard");
        }
        requirePlanned(played);
        played.beards[actor] = beard;
        return played.countActors();
    }

    public int uses(int scene, int prop, int from, int to)
            throws IndexOutOfBoundsException, IllegalArgumentException, IllegalStateException {
        Scene user = sceneNumbered(scene);
        requireProp(prop);
        if (from < 0 || from >= STATES || to < from || to >= STATES) {
            throw new IllegalArgumentException("no such states");
        }
        requirePlanned(user);
        if (!agesForwards(scene, prop, from, to)) {
            throw new IllegalStateException("the prop would age backwards");
        }
        user.from[prop] = from;
        user.to[prop] = to;
        return user.countProps();
    }

    public int cut(int scene) throws IndexOutOfBoundsException, IllegalStateException {
        Scene dropped = sceneNumbered(scene);
        requirePlanned(dropped);
        int day = plannedDay(dropped);
        put(plan, day, null);
        dropped.state = CUT;
        return day;
    }

    public int swap(int one, int other) throws IllegalArgumentException {
        if (one < now || one >= DAYS || other < now || other >= DAYS) {
            throw new IllegalArgumentException("no such day to come");
        }
        swapDays(one, other);
        return planCost();
    }

    // ---- permits, actors, copies

    public int permit(int set, int from, int to, int flames) throws IllegalArgumentException, IllegalStateException {
        if (set < 0 || set >= SETS || flames < 1 || flames > MOST_FLAMES) {
            throw new IllegalArgumentException("no such set or number of flames");
        }
        if (from < 0 || from >= DAYS || to < from || to >= DAYS) {
            throw new IllegalArgumentException("no such days");
        }
        if (permitCount >= permits.length) {
            throw new IllegalStateException("no more permits");
        }
        int number = permitCount;
        permits[number] = new Permit(set, from, to, flames);
        permitCount++;
        return number;
    }

    public int revoke(int permit) throws IndexOutOfBoundsException, IllegalStateException {
        Permit lost = permitNumbered(permit);
        if (lost.isRevoked) {
            throw new IllegalStateException("the permit was revoked");
        }
        int before = countRefused();
        lost.isRevoked = true;
        return countRefused() - before;
    }

    public boolean away(int actor, int day, boolean isAway) throws IndexOutOfBoundsException, IllegalArgumentException {
        requireActor(actor);
        requireDay(day);
        boolean wasAway = isAwayOn(actor, day);
        if (wasAway != isAway) {
            awayDays[actor] ^= 1 << day;
        }
        return wasAway;
    }

    public int buy(int prop) throws IndexOutOfBoundsException, IllegalStateException {
        requireProp(prop);
        int owned = studio.countCopies(prop);
        if (owned >= MOST_BOUGHT) {
            throw new IllegalStateException("enough copies");
        }
        studio.stock[prop][0]++;
        paid += NEW_COPY;
        return owned + 1;
    }

    public int clear() {
        int thrown = 0;
        for (int prop = 0; prop < PROPS; prop++) {
            thrown += studio.stock[prop][BROKEN];
            studio.stock[prop][BROKEN] = 0;
        }
        return thrown;
    }

    public int mishap(int prop, int state)
            throws IndexOutOfBoundsException, IllegalArgumentException, IllegalStateException {
        requireProp(prop);
        if (state < 0 || state >= BROKEN) {
            throw new IllegalArgumentException("no such whole state");
        }
        int[] owned = studio.stock[prop];
        if (owned[state] <= 0) {
            throw new IllegalStateException("no copy in this state");
        }
        owned[state]--;
        owned[BROKEN]++;
        return owned[BROKEN];
    }

    // ---- days

    public int shoot() throws IllegalStateException {
        if (now >= DAYS) {
            throw new IllegalStateException("all days are over");
        }
        Scene due = plan[now];
        plan[now] = null;
        int shot = NONE;
        if (due != null && allows(due, now)) {
            paid += studio.film(due);
            due.state = SHOT;
            due.shotOn = now;
            shot = due.number;
        } else if (due != null) {
            putOff(due);
        }
        studio.growBeards(1);
        now++;
        return shot;
    }

    public int mend() {
        int made = 0;
        for (int day = now; day < DAYS; day++) {
            int other = isRefusedOn(day) ? mendingDay(day) : NONE;
            if (other != NONE) {
                swapDays(day, other);
                made++;
            }
        }
        return made;
    }

    public int better() {
        int made = 0;
        while (made < ENOUGH_SWAPS && makeBestSwap()) {
            made++;
        }
        return made;
    }

    public int least() throws IllegalStateException {
        orders.note(plan);
        if (orders.count > MOST_ORDERED) {
            throw new IllegalStateException("too many scenes to order");
        }
        int least = planCost();
        int all = orders.countOrders();
        for (int order = 0; order < all; order++) {
            orders.lay(plan, order);
            least = Math.min(least, planCost());
        }
        orders.restore(plan);
        return least;
    }

    // ---- what there is

    public int today() {
        return now;
    }

    public int spent() {
        return paid;
    }

    public int cost() {
        return planCost();
    }

    public int scenes() {
        return toldCount;
    }

    public int stateOf(int scene) throws IndexOutOfBoundsException {
        return sceneNumbered(scene).state;
    }

    public int dayOf(int scene) throws IndexOutOfBoundsException {
        Scene asked = sceneNumbered(scene);
        return asked.state == SHOT ? asked.shotOn : plannedDay(asked);
    }

    public int sceneOn(int day) throws IllegalArgumentException {
        requireDay(day);
        Scene planned = plan[day];
        return planned == null ? NONE : planned.number;
    }

    public int refused() {
        return countRefused();
    }

    public boolean isAllowed(int scene, int day) throws IndexOutOfBoundsException, IllegalArgumentException {
        Scene asked = sceneNumbered(scene);
        requireDay(day);
        return allows(asked, day);
    }

    public int ahead(int scene, int prop) throws IndexOutOfBoundsException {
        sceneNumbered(scene);
        requireProp(prop);
        int state = 0;
        for (Scene earlier : told) {
            if (earlier != null && earlier.number < scene && earlier.ages(prop)) {
                state = earlier.to[prop];
            }
        }
        return state;
    }

    public int copies(int prop, int state) throws IndexOutOfBoundsException, IllegalArgumentException {
        requireProp(prop);
        if (state < 0 || state >= STATES) {
            throw new IllegalArgumentException("no such state");
        }
        return studio.stock[prop][state];
    }

    public int growth(int actor) throws IndexOutOfBoundsException {
        requireActor(actor);
        return studio.beards[actor];
    }

    // ---- what arguments must be

    private Scene sceneNumbered(int number) {
        if (number < 0 || number >= told.length || told[number] == null) {
            throw new IndexOutOfBoundsException("no such scene");
        }
        return told[number];
    }

    private Permit permitNumbered(int number) {
        if (number < 0 || number >= permits.length || permits[number] == null) {
            throw new IndexOutOfBoundsException("no such permit");
        }
        return permits[number];
    }

    private static void requireActor(int actor) {
        if (actor < 0 || actor >= ACTORS) {
            throw new IndexOutOfBoundsException("no such actor");
        }
    }

    private static void requireProp(int prop) {
        if (prop < 0 || prop >= PROPS) {
            throw new IndexOutOfBoundsException("no such prop");
        }
    }

    private static void requireDay(int day) {
        if (day < 0 || day >= DAYS) {
            throw new IllegalArgumentException("no such day");
        }
    }

    private static void requirePlanned(Scene scene) {
        if (scene.state != PLANNED) {
            throw new IllegalStateException("the scene is not planned");
        }
    }

    private boolean agesForwards(int scene, int prop, int from, int to) {
        for (Scene other : told) {
            if (other == null || other.number == scene || !other.ages(prop)) {
                continue;
            }
            if (other.number < scene ? other.to[prop] > from : other.from[prop] < to) {
                return false;
            }
        }
        return true;
    }

    // ---- the plan

    private int dayBehindPlan() {
        int behind = now;
        for (int day = now; day < DAYS; day++) {
            if (plan[day] != null) {
                behind = day + 1;
            }
        }
        return behind;
    }

    private int plannedDay(Scene scene) {
        for (int day = 0; day < DAYS; day++) {
            if (plan[day] == scene) {
                return day;
            }
        }
        return NONE;
    }

    private void putOff(Scene scene) {
        for (int day = now + 1; day < DAYS; day++) {
            if (plan[day] == null) {
                plan[day] = scene;
                return;
            }
        }
        scene.state = CUT;
    }

    private void swapDays(int one, int other) {
        exchange(plan, one, other);
    }

    private static void put(Scene[] plan, int day, Scene scene) {
        if (day >= 0 && day < plan.length) {
            plan[day] = scene;
        }
    }

    private static void exchange(Scene[] plan, int one, int other) {
        if (one < 0 || one >= plan.length || other < 0 || other >= plan.length) {
            return;
        }
        Scene moved = plan[one];
        plan[one] = plan[other];
        plan[other] = moved;
    }

    private int planCost() {
        trial.copy(studio);
        int total = 0;
        int reached = now;
        for (int day = now; day < DAYS; day++) {
            Scene due = plan[day];
            if (due == null) {
                continue;
            }
            trial.growBeards(day - reached);
            reached = day;
            total += trial.film(due);
            if (!allows(due, day)) {
                total += REFUSAL;
            }
        }
        return total;
    }

    private int costAfterSwap(int one, int other) {
        swapDays(one, other);
        int total = planCost();
        swapDays(one, other);
        return total;
    }

    private int mendingDay(int refusedDay) {
        int best = NONE;
        int least = 0;
        for (int day = now; day < DAYS; day++) {
            if (day == refusedDay || !wouldMend(refusedDay, day)) {
                continue;
            }
            int total = costAfterSwap(refusedDay, day);
            if (best == NONE || total < least) {
                best = day;
                least = total;
            }
        }
        return best;
    }

    private boolean wouldMend(int one, int other) {
        return isFree(plan[one], other) && isFree(plan[other], one);
    }

    private boolean isFree(Scene scene, int day) {
        return scene == null || allows(scene, day);
    }

    private boolean makeBestSwap() {
        int least = planCost();
        int first = NONE;
        int second = NONE;
        for (int one = now; one < DAYS; one++) {
            for (int other = one + 1; other < DAYS; other++) {
                // two days without scenes need no trial: their swap changes nothing
                if (plan[one] == null && plan[other] == null) {
                    continue;
                }
                int total = costAfterSwap(one, other);
                if (total < least) {
                    least = total;
                    first = one;
                    second = other;
                }
            }
        }
        swapDays(first, second);
        return first != NONE;
    }

    // ---- permission

    private int countRefused() {
        int count = 0;
        for (int day = now; day < DAYS; day++) {
            if (isRefusedOn(day)) {
                count++;
            }
        }
        return count;
    }

    private boolean isRefusedOn(int day) {
        return !isFree(plan[day], day);
    }

    private boolean allows(Scene scene, int day) {
        return isPermitted(scene, day) && isCastThere(scene, day);
    }

    private boolean isPermitted(Scene scene, int day) {
        if (scene.flames == 0) {
            return true;
        }
        for (Permit permit : permits) {
            if (permit != null && permit.covers(scene, day)) {
                return true;
            }
        }
        return false;
    }

    private boolean isCastThere(Scene scene, int day) {
        for (int actor = 0; actor < ACTORS; actor++) {
            if (scene.beards[actor] != ABSENT && isAwayOn(actor, day)) {
                return false;
            }
        }
        return true;
    }

    private boolean isAwayOn(int actor, int day) {
        return (awayDays[actor] >> day & 1) != 0;
    }

    private static final class Scene {
        final int number;
        final int set;
        final int flames;
        final int[] beards = new int[ACTORS];
        final int[] from = new int[PROPS];
        final int[] to = new int[PROPS];
        int state = PLANNED;
        int shotOn = NONE;

        Scene(int number, int set, int flames) {
            this.number = number;
            this.set = set;
            this.flames = flames;
            Arrays.fill(beards, ABSENT);
            Arrays.fill(from, NONE);
            Arrays.fill(to, NONE);
        }

        int countActors() {
            int count = 0;
            for (int beard : beards) {
                count += beard == ABSENT ? 0 : 1;
            }
            return count;
        }

        int countProps() {
            int count = 0;
            for (int state : from) {
                count += state == NONE ? 0 : 1;
            }
            return count;
        }

        // A cut scene is no longer told, so its props do not age by it.
        boolean ages(int prop) {
            return state != CUT && prop >= 0 && prop < PROPS && from[prop] != NONE;
        }
    }

    private static final class Permit {
        final int set;
        final int from;
        final int to;
        final int flames;
        boolean isRevoked = false;

        Permit(int set, int from, int to, int flames) {
            this.set = set;
            this.from = from;
            this.to = to;
            this.flames = flames;
        }

        boolean covers(Scene scene, int day) {
            return !isRevoked && set == scene.set && from <= day && day <= to && flames >= scene.flames;
        }
    }

    /** What filming changes, apart from the plan, so that a plan can be tried on a second one. */
    private static final class Studio {
        final int[][] stock = new int[PROPS][STATES];
        final int[] beards = new int[ACTORS];
        int lastSet = NONE;

        void copy(Studio other) {
            for (int prop = 0; prop < PROPS; prop++) {
                System.arraycopy(other.stock[prop], 0, stock[prop], 0, STATES);
            }
            System.arraycopy(other.beards, 0, beards, 0, ACTORS);
            lastSet = other.lastSet;
        }

        int countCopies(int prop) {
            int count = 0;
            for (int state = 0; state < STATES; state++) {
                count += stock[prop][state];
            }
            return count;
        }

        void growBeards(int days) {
            for (int actor = 0; actor < ACTORS; actor++) {
                beards[actor] = Math.min(MOST_GROWTH, beards[actor] + days);
            }
        }

        int film(Scene scene) {
            int total = lastSet == NONE || lastSet == scene.set ? 0 : OTHER_SET;
            lastSet = scene.set;
            for (int actor = 0; actor < ACTORS; actor++) {
                total += dress(actor, scene.beards[actor]);
            }
            for (int prop = 0; prop < PROPS; prop++) {
                if (scene.from[prop] != NONE) {
                    total += serve(prop, scene.from[prop], scene.to[prop]);
                }
            }
            return total;
        }

        private int dress(int actor, int beard) {
            if (beard == 0) {
                beards[actor] = 0;
            }
            return beard > beards[actor] ? FALSE_BEARD : 0;
        }

        private int serve(int prop, int from, int to) {
            int[] owned = stock[prop];
            int found = NONE;
            for (int state = 0; state < STATES && state <= from; state++) {
                if (owned[state] > 0) {
                    found = state;
                }
            }
            if (to >= 0 && to < STATES) {
                owned[to]++;
            }
            if (found == NONE) {
                return NEW_COPY + from;
            }
            owned[found]--;
            return from - found;
        }
    }

    /** The scenes of a plan and their days, to be laid on these days in every order. */
    private static final class Orders {
        final int[] days = new int[SCENES];
        final Scene[] scenes = new Scene[SCENES];
        int count = 0;

        void note(Scene[] plan) {
            count = 0;
            for (int day = 0; day < plan.length && count < SCENES; day++) {
                if (plan[day] != null) {
                    days[count] = day;
                    scenes[count] = plan[day];
                    count++;
                }
            }
        }

        int countOrders() {
            int product = 1;
            for (int factor = 2; factor <= count && factor <= SCENES; factor++) {
                product *= factor;
            }
            return product;
        }

        void restore(Scene[] plan) {
            for (int i = 0; i < count && i < SCENES; i++) {
                put(plan, days[i], scenes[i]);
            }
        }

        // The order's digits, to the bases count, count - 1, .. 2, pick the scene for each day from the last.
        void lay(Scene[] plan, int order) {
            restore(plan);
            int rest = order;
            for (int base = Math.min(count, SCENES); base > 1; base--) {
                exchange(plan, days[base - 1], days[rest % base]);
                rest /= base;
            }
        }
    }
}
