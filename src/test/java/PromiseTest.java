import java.util.function.Supplier;

/** For each promise of the document: ordinary inputs, the edges it names, and wrong inputs. */
public final class PromiseTest {
    private static final String INDEX = "IndexOutOfBoundsException";
    private static final String ARGUMENT = "IllegalArgumentException";
    private static final String STATE = "IllegalStateException";
    private static final int LOW = Integer.MIN_VALUE;
    private static final int HIGH = Integer.MAX_VALUE;
    private static int wrong = 0;
    private static int promise = 0;

    private static void due(String what, Object got, Object want) {
        if (!got.equals(want)) {
            wrong++;
            System.out.println("promise " + promise + ": " + what + " answered " + got + ", due is " + want);
        }
    }

    private static void fails(String what, String want, Supplier<Object> call) {
        Object got;
        try {
            got = call.get();
        } catch (RuntimeException thrown) {
            got = thrown.getClass().getSimpleName();
        }
        due(what, got, want);
    }

    private static BacklotPlanner planner(int scenes) {
        BacklotPlanner x = new BacklotPlanner();
        for (int i = 0; i < scenes; i++) {
            x.scene(0, 0);
        }
        return x;
    }

    private static void pass(BacklotPlanner x, int days) {
        for (int i = 0; i < days; i++) {
            x.shoot();
        }
    }

    private static void newObject() {
        promise = 1;
        BacklotPlanner x = new BacklotPlanner();
        due("scenes()", x.scenes(), 0);
        due("today()", x.today(), 0);
        due("spent()", x.spent(), 0);
        due("cost()", x.cost(), 0);
        due("refused()", x.refused(), 0);
        fails("revoke(0)", INDEX, () -> x.revoke(0));
        for (int i = 0; i < 5; i++) {
            due("growth(" + i + ")", x.growth(i), 0);
            for (int state = 0; state < 4; state++) {
                due("copies(" + i + ", " + state + ")", x.copies(i, state), 0);
            }
            for (int day = 0; day < 30; day++) {
                due("away(" + i + ", " + day + ", false)", x.away(i, day, false), false);
            }
        }
        for (int day = 0; day < 30; day++) {
            due("sceneOn(" + day + ")", x.sceneOn(day), BacklotPlanner.NONE);
        }
        x.scene(0, 0);
        due("scenes() of another object", new BacklotPlanner().scenes(), 0);
    }

    private static void scene() {
        promise = 2;
        BacklotPlanner x = new BacklotPlanner();
        due("the first scene", x.scene(0, 0), 0);
        due("the second scene", x.scene(3, 9), 1);
        due("dayOf(1)", x.dayOf(1), 1);
        x.swap(1, 20);
        due("the third scene", x.scene(1, 0), 2);
        due("its day behind the last planned one", x.dayOf(2), 21);
        x.swap(21, 29);
        fails("a scene behind day 29", STATE, () -> x.scene(0, 0));
        fails("scene(4, 0), with no room besides", ARGUMENT, () -> x.scene(4, 0));
        due("scenes() after that", x.scenes(), 3);
        x.cut(2);
        due("a scene when that is cut", x.scene(0, 0), 3);
        due("its day", x.dayOf(3), 21);

        for (int[] a : new int[][] {{-1, 0}, {4, 0}, {0, -1}, {0, 10}, {LOW, 0}, {HIGH, 0}, {0, LOW}, {0, HIGH}}) {
            fails("scene(" + a[0] + ", " + a[1] + ")", ARGUMENT, () -> x.scene(a[0], a[1]));
        }
        BacklotPlanner full = planner(10);
        full.cut(9);
        fails("an 11th scene, one being cut", STATE, () -> full.scene(0, 0));
        fails("an 11th scene at no set", ARGUMENT, () -> full.scene(-1, 0));

        BacklotPlanner late = planner(2);
        pass(late, 5);
        due("a scene when none is planned", late.scene(0, 0), 2);
        due("it is planned for today", late.dayOf(2), 5);
        pass(late, 24);
        due("a scene on the last day", late.scene(0, 0), 3);
        due("its day", late.dayOf(3), 29);
        pass(late, 1);
        fails("a scene when all days are over", STATE, () -> late.scene(0, 0));
    }

    private static void plays() {
        promise = 3;
        BacklotPlanner x = planner(2);
        due("plays(0, 0, ANY)", x.plays(0, 0, BacklotPlanner.ANY), 1);
        due("plays(0, 4, 0)", x.plays(0, 4, 0), 2);
        due("plays(0, 4, 20), with another beard", x.plays(0, 4, 20), 2);
        due("cost() with the other beard", x.cost(), 3);
        due("plays(0, 4, ANY)", x.plays(0, 4, BacklotPlanner.ANY), 2);
        due("cost() with any beard", x.cost(), 0);
        due("plays(1, 4, 1) on the day 1", x.plays(1, 4, 1), 1);
        due("cost() with a beard that has grown", x.cost(), 0);
        x.plays(1, 4, 2);
        due("cost() with a beard that has not", x.cost(), 3);

        for (int[] a : new int[][] {{-1, 0, 0}, {2, 0, 0}, {0, -1, 0}, {0, 5, 0}, {LOW, 0, 0}, {HIGH, 0, 0}, {0, LOW, 0}, {0, HIGH, 0}, {0, 5, -2}}) {
            fails("plays(" + a[0] + ", " + a[1] + ", " + a[2] + ")", INDEX, () -> x.plays(a[0], a[1], a[2]));
        }
        for (int beard : new int[] {-2, 21, LOW, HIGH}) {
            fails("plays(0, 0, " + beard + ")", ARGUMENT, () -> x.plays(0, 0, beard));
        }
        pass(x, 1);
        fails("plays in a scene that is SHOT", STATE, () -> x.plays(0, 0, 0));
        fails("plays in it with no such beard", ARGUMENT, () -> x.plays(0, 0, 21));
        fails("plays in it as no such actor", INDEX, () -> x.plays(0, 5, 21));
        x.cut(1);
        fails("plays in a scene that is CUT", STATE, () -> x.plays(1, 0, 0));
    }

    private static void uses() {
        promise = 4;
        BacklotPlanner x = planner(3);
        due("uses(1, 0, 1, 2)", x.uses(1, 0, 1, 2), 1);
        due("uses(1, 4, 3, 3)", x.uses(1, 4, 3, 3), 2);
        due("uses(1, 4, 0, 3), otherwise than before", x.uses(1, 4, 0, 3), 2);
        due("cost() with it new", x.cost(), 5 + 1 + 5);
        fails("an earlier scene to a greater state", STATE, () -> x.uses(0, 0, 0, 2));
        due("ahead(1, 0) after that", x.ahead(1, 0), 0);
        fails("a later scene from a lesser state", STATE, () -> x.uses(2, 0, 1, 3));
        due("an earlier scene to an equal state", x.uses(0, 0, 0, 1), 1);
        due("a later scene from an equal state", x.uses(2, 0, 2, 2), 1);
        fails("uses(1, 0, 0, 2), too new for the earlier one", STATE, () -> x.uses(1, 0, 0, 2));
        fails("uses(1, 0, 1, 3), too old for the later one", STATE, () -> x.uses(1, 0, 1, 3));
        due("uses(1, 0, 2, 2)", x.uses(1, 0, 2, 2), 2);
        due("another prop is free", x.uses(0, 1, 3, 3), 2);

        for (int[] a : new int[][] {{-1, 0}, {3, 0}, {0, -1}, {0, 5}, {LOW, 0}, {HIGH, 0}, {0, LOW}, {0, HIGH}}) {
            fails("uses(" + a[0] + ", " + a[1] + ", 2, 1)", INDEX, () -> x.uses(a[0], a[1], 2, 1));
        }
        for (int[] a : new int[][] {{-1, 0}, {4, 4}, {0, 4}, {2, 1}, {3, 2}, {LOW, 0}, {HIGH, HIGH}, {0, HIGH}, {0, LOW}}) {
            fails("uses(0, 0, " + a[0] + ", " + a[1] + ")", ARGUMENT, () -> x.uses(0, 0, a[0], a[1]));
        }
        x.cut(1);
        fails("a scene that is CUT", STATE, () -> x.uses(1, 0, 1, 1));
        fails("a scene that is CUT, with no such states", ARGUMENT, () -> x.uses(1, 0, 1, 0));
        due("a scene that is CUT does not bind others", x.uses(2, 0, 1, 1), 1);
        pass(x, 1);
        fails("a scene that is SHOT", STATE, () -> x.uses(0, 0, 0, 0));
        fails("a scene that is SHOT binds others", STATE, () -> x.uses(2, 0, 0, 1));
    }

    private static void cut() {
        promise = 5;
        BacklotPlanner x = planner(3);
        x.swap(2, 17);
        due("cut(2)", x.cut(2), 17);
        due("its state", x.stateOf(2), BacklotPlanner.CUT);
        due("its day is free", x.sceneOn(17), BacklotPlanner.NONE);
        due("cut(0)", x.cut(0), 0);
        due("the day 0 is free", x.sceneOn(0), BacklotPlanner.NONE);
        due("scenes() counts it", x.scenes(), 3);
        fails("cut(0) again", STATE, () -> x.cut(0));
        pass(x, 2);
        fails("cut(1), which is SHOT", STATE, () -> x.cut(1));
        for (int scene : new int[] {-1, 3, 10, LOW, HIGH}) {
            fails("cut(" + scene + ")", INDEX, () -> x.cut(scene));
        }
    }

    private static void swap() {
        promise = 6;
        BacklotPlanner x = new BacklotPlanner();
        x.scene(0, 0);
        x.scene(1, 0);
        x.scene(0, 0);
        due("swap(1, 2)", x.swap(1, 2), 2);
        due("sceneOn(1)", x.sceneOn(1), 2);
        due("sceneOn(2)", x.sceneOn(2), 1);
        due("swap(29, 0), one without a scene", x.swap(29, 0), 4);
        due("dayOf(0)", x.dayOf(0), 29);
        due("sceneOn(0)", x.sceneOn(0), BacklotPlanner.NONE);
        due("swap(7, 8), both without", x.swap(7, 8), 4);
        due("swap(1, 1)", x.swap(1, 1), 4);
        due("dayOf(2)", x.dayOf(2), 1);
        pass(x, 1);
        for (int[] a : new int[][] {{0, 1}, {1, 0}, {1, 30}, {30, 1}, {-1, 1}, {LOW, 1}, {1, HIGH}}) {
            fails("swap(" + a[0] + ", " + a[1] + ") on the day 1", ARGUMENT, () -> x.swap(a[0], a[1]));
        }
        pass(x, 29);
        fails("swap(29, 29) when all days are over", ARGUMENT, () -> x.swap(29, 29));
        fails("swap(30, 30) when all days are over", ARGUMENT, () -> x.swap(30, 30));
    }

    private static void permit() {
        promise = 7;
        BacklotPlanner x = new BacklotPlanner();
        x.scene(2, 5);
        due("the first permit", x.permit(2, 3, 6, 5), 0);
        due("the day ahead of it", x.isAllowed(0, 2), false);
        due("its first day", x.isAllowed(0, 3), true);
        due("its last day", x.isAllowed(0, 6), true);
        due("the day behind it", x.isAllowed(0, 7), false);
        due("a permit for fewer flames", x.permit(2, 10, 10, 4), 1);
        due("is not enough", x.isAllowed(0, 10), false);
        due("a permit for more flames", x.permit(2, 11, 11, 9), 2);
        due("is enough", x.isAllowed(0, 11), true);
        due("a permit for another set", x.permit(1, 12, 12, 9), 3);
        due("does not count", x.isAllowed(0, 12), false);

        for (int[] a : new int[][] {{-1, 0, 0, 1}, {4, 0, 0, 1}, {0, -1, 0, 1}, {0, 30, 30, 1}, {0, 5, 4, 1}, {0, 0, 30, 1},
                {0, 0, 0, 0}, {0, 0, 0, 10}, {LOW, 0, 0, 1}, {HIGH, 0, 0, 1}, {0, LOW, 0, 1}, {0, 0, HIGH, 1}, {0, 0, 0, LOW}, {0, 0, 0, HIGH}}) {
            fails("permit(" + a[0] + ", " + a[1] + ", " + a[2] + ", " + a[3] + ")", ARGUMENT, () -> x.permit(a[0], a[1], a[2], a[3]));
        }
        for (int i = 4; i < 20; i++) {
            due("permit " + i, x.permit(3, 0, 29, 1), i);
        }
        x.revoke(19);
        fails("a 21st permit, one being revoked", STATE, () -> x.permit(0, 0, 0, 1));
        fails("a 21st permit at no set", ARGUMENT, () -> x.permit(4, 0, 0, 1));
    }

    private static void revoke() {
        promise = 8;
        BacklotPlanner x = new BacklotPlanner();
        x.scene(0, 1);
        x.scene(0, 2);
        x.scene(1, 2);
        x.permit(0, 0, 29, 1);
        x.permit(0, 0, 29, 2);
        due("refused() at first", x.refused(), 1);
        due("revoke(1)", x.revoke(1), 1);
        due("refused() then", x.refused(), 2);
        fails("revoke(1) again", STATE, () -> x.revoke(1));
        x.permit(0, 0, 0, 9);
        due("revoke(0), which another one stands in for", x.revoke(0), 0);
        due("refused() still", x.refused(), 2);
        x.permit(0, 0, 1, 9);
        x.revoke(2);
        due("revoke(3), which allows two", x.revoke(3), 2);
        for (int permit : new int[] {-1, 4, 19, 20, LOW, HIGH}) {
            fails("revoke(" + permit + ")", INDEX, () -> x.revoke(permit));
        }
    }

    private static void away() {
        promise = 9;
        BacklotPlanner x = planner(1);
        x.plays(0, 1, BacklotPlanner.ANY);
        due("away(1, 29, true)", x.away(1, 29, true), false);
        due("away(1, 29, true) again", x.away(1, 29, true), true);
        due("he is", x.isAllowed(0, 29), false);
        due("on no other day", x.isAllowed(0, 28), true);
        due("another actor does not matter", x.away(0, 5, true), false);
        due("isAllowed(0, 5)", x.isAllowed(0, 5), true);
        due("away(1, 29, false)", x.away(1, 29, false), true);
        due("away(1, 29, false) again", x.away(1, 29, false), false);
        due("he is back", x.isAllowed(0, 29), true);
        pass(x, 3);
        due("a day that is over", x.away(1, 0, true), false);
        due("is kept", x.away(1, 0, true), true);
        for (int actor : new int[] {-1, 5, LOW, HIGH}) {
            fails("away(" + actor + ", 30, true)", INDEX, () -> x.away(actor, 30, true));
        }
        for (int day : new int[] {-1, 30, 32, LOW, HIGH}) {
            fails("away(0, " + day + ", true)", ARGUMENT, () -> x.away(0, day, true));
        }
    }

    private static void buy() {
        promise = 10;
        BacklotPlanner x = new BacklotPlanner();
        due("buy(4)", x.buy(4), 1);
        x.mishap(4, 0);
        due("buy(4), one being broken", x.buy(4), 2);
        due("new ones", x.copies(4, 0), 1);
        due("spent()", x.spent(), 10);
        for (int i = 3; i <= 20; i++) {
            due("buy(4)", x.buy(4), i);
        }
        fails("a 21st copy", STATE, () -> x.buy(4));
        due("spent() after that", x.spent(), 100);
        due("another prop", x.buy(0), 1);
        x.clear();
        due("buy(4) when there are 19", x.buy(4), 20);
        x.scene(0, 0);
        x.uses(0, 4, 0, 1);
        due("the cost of the copy that there is", x.cost(), 0);
        for (int prop : new int[] {-1, 5, LOW, HIGH}) {
            fails("buy(" + prop + ")", INDEX, () -> x.buy(prop));
        }
    }

    private static void clear() {
        promise = 11;
        BacklotPlanner x = new BacklotPlanner();
        due("clear() of nothing", x.clear(), 0);
        for (int prop = 0; prop < 5; prop++) {
            x.buy(prop);
            x.buy(prop);
            x.mishap(prop, 0);
        }
        x.mishap(2, 0);
        due("clear()", x.clear(), 6);
        due("clear() again", x.clear(), 0);
        due("copies(2, 3)", x.copies(2, 3), 0);
        due("copies(4, 3)", x.copies(4, 3), 0);
        due("copies(4, 0)", x.copies(4, 0), 1);
        due("spent()", x.spent(), 50);
    }

    private static void mishap() {
        promise = 12;
        BacklotPlanner x = new BacklotPlanner();
        x.scene(0, 0);
        x.uses(0, 1, 0, 2);
        pass(x, 1);
        x.buy(1);
        due("mishap(1, 2)", x.mishap(1, 2), 1);
        due("copies(1, 2)", x.copies(1, 2), 0);
        due("mishap(1, 0)", x.mishap(1, 0), 2);
        due("copies(1, 0)", x.copies(1, 0), 0);
        due("copies(1, 3)", x.copies(1, 3), 2);
        due("spent() for the scene and the copy", x.spent(), 10);
        for (int state = 0; state < 3; state++) {
            int there = state;
            fails("mishap(1, " + state + ") of none", STATE, () -> x.mishap(1, there));
        }
        for (int state : new int[] {-1, 3, 4, LOW, HIGH}) {
            fails("mishap(1, " + state + ")", ARGUMENT, () -> x.mishap(1, state));
        }
        for (int prop : new int[] {-1, 5, LOW, HIGH}) {
            fails("mishap(" + prop + ", 3)", INDEX, () -> x.mishap(prop, 3));
        }
    }

    private static void shoot() {
        promise = 13;
        BacklotPlanner x = new BacklotPlanner();
        due("shoot() without a scene", x.shoot(), BacklotPlanner.NONE);
        x.scene(0, 0);
        x.scene(0, 0);
        x.scene(1, 0);
        x.scene(0, 0);
        x.swap(1, 2);
        due("the scene of the day", x.shoot(), 1);
        due("spent() at the first set", x.spent(), 0);
        due("the next one", x.shoot(), 0);
        due("spent() at the same set", x.spent(), 0);
        due("the third one", x.shoot(), 2);
        due("spent() at another set", x.spent(), 2);
        x.swap(4, 9);
        pass(x, 5);
        due("the last set is kept over days", x.cost(), 2);
        due("the fourth one", x.shoot(), 3);
        due("spent() at a third change", x.spent(), 4);
        due("today()", x.today(), 10);
        pass(x, 20);
        due("today() when all is over", x.today(), 30);
        fails("shoot() then", STATE, () -> x.shoot());
        due("today() after that", x.today(), 30);
        due("growth(0) after that", x.growth(0), 20);
    }

    private static void puttingOff() {
        BacklotPlanner x = new BacklotPlanner();
        x.scene(0, 0);
        x.scene(1, 4);
        x.scene(0, 0);
        x.swap(0, 1);
        due("a refused scene is not shot", x.shoot(), BacklotPlanner.NONE);
        due("it is put off behind the next ones", x.dayOf(1), 3);
        due("it is PLANNED", x.stateOf(1), BacklotPlanner.PLANNED);
        due("that costs nothing", x.spent(), 0);
        due("the days before are kept", x.sceneOn(1) * 10 + x.sceneOn(2), 2);
        x.swap(3, 29);
        x.swap(2, 28);
        x.swap(1, 2);
        pass(x, 28);
        due("the last but one day", x.shoot() + x.today(), BacklotPlanner.NONE + 30);
        due("the scene without a later day is CUT", x.stateOf(1), BacklotPlanner.CUT);
        due("its day", x.dayOf(1), BacklotPlanner.NONE);
        due("spent()", x.spent(), 0);

        BacklotPlanner gap = planner(2);
        gap.plays(0, 0, BacklotPlanner.ANY);
        gap.away(0, 0, true);
        gap.swap(1, 4);
        pass(gap, 1);
        due("put off into the first gap", gap.dayOf(0), 1);
        due("shot there", gap.shoot(), 0);
    }

    private static void serving() {
        BacklotPlanner x = planner(4);
        x.plays(0, 0, 0);
        x.plays(0, 1, 1);
        x.plays(1, 1, 1);
        x.plays(2, 1, 0);
        x.plays(2, 0, 3);
        x.plays(3, 1, 2);
        due("cost() of beards", x.cost(), 3 + 0 + 3 + 3);
        pass(x, 1);
        due("a false beard", x.spent(), 3);
        due("a shaved one grows", x.growth(0), 1);
        due("the growth stays under a false one", x.growth(1), 1);
        pass(x, 1);
        due("a beard that is enough", x.spent(), 3);
        pass(x, 1);
        due("a beard that was shaved on the day 0", x.spent(), 6);
        due("its growth", x.growth(0), 3);
        due("shaved on the day 2", x.growth(1), 1);
        pass(x, 1);
        due("spent() for beards", x.spent(), 9);

        BacklotPlanner y = planner(4);
        y.uses(0, 0, 1, 2);
        y.uses(1, 0, 2, 2);
        y.uses(2, 0, 3, 3);
        y.uses(3, 0, 3, 3);
        y.buy(0);
        due("cost() of props", y.cost(), 1 + 0 + 1 + 0);
        y.swap(0, 3);
        due("cost() with the oldest first", y.cost(), 3 + 0 + 5 + 2 + 5 + 1);
        y.swap(0, 3);
        y.shoot();
        due("the new copy was aged, then used", y.copies(0, 2), 1);
        due("spent()", y.spent(), 5 + 1);
        y.buy(0);
        y.shoot();
        due("the copy in the very state is taken", y.copies(0, 0) * 10 + y.copies(0, 2), 11);
        due("spent() then", y.spent(), 11);
        y.shoot();
        due("the greatest lesser state is aged", y.copies(0, 0) * 10 + y.copies(0, 3), 11);
        due("spent() then", y.spent(), 12);
        y.shoot();
        due("a broken copy serves broken", y.copies(0, 0) * 10 + y.copies(0, 3), 11);
        due("spent() then", y.spent(), 12);

        BacklotPlanner kept = planner(2);
        kept.uses(0, 2, 0, 0);
        kept.uses(1, 2, 0, 0);
        due("cost() of a prop that stays new", kept.cost(), 5);
        pass(kept, 2);
        due("copies(2, 0)", kept.copies(2, 0), 1);

        BacklotPlanner z = planner(1);
        z.uses(0, 3, 2, 3);
        z.buy(3);
        z.mishap(3, 0);
        z.shoot();
        due("a copy in a greater state does not serve", z.spent(), 5 + 5 + 2);
        due("copies(3, 3)", z.copies(3, 3), 2);
    }

    private static void mend() {
        promise = 14;
        BacklotPlanner x = planner(3);
        due("mend() of what is fine", x.mend(), 0);
        x.scene(1, 0);
        x.plays(3, 0, BacklotPlanner.ANY);
        x.away(0, 3, true);
        due("cost() with it refused", x.cost(), 22);
        due("mend()", x.mend(), 1);
        due("the least cost is on the day 0, and behind the others", x.dayOf(3), 0);
        due("the other scene went to its day", x.sceneOn(3), 0);
        due("cost()", x.cost(), 2);

        BacklotPlanner past = planner(1);
        past.plays(0, 0, BacklotPlanner.ANY);
        past.away(0, 2, true);
        past.swap(0, 2);
        pass(past, 1);
        due("mend() on the day 1", past.mend(), 1);
        due("no day that is over is taken", past.dayOf(0), 1);

        BacklotPlanner both = planner(2);
        both.plays(0, 0, BacklotPlanner.ANY);
        both.plays(1, 1, BacklotPlanner.ANY);
        both.away(0, 0, true);
        both.away(1, 0, true);
        due("mend() where the other scene would be refused", both.mend(), 1);
        due("the lowest free day", both.dayOf(0), 2);
        due("the other stays", both.dayOf(1), 1);

        BacklotPlanner dear = planner(2);
        dear.scene(0, 1);
        dear.permit(0, 1, 1, 1);
        dear.plays(1, 2, 2);
        dear.swap(0, 2);
        due("cost() with the beard", dear.cost(), 20 + 3);
        dear.away(3, 0, true);
        due("mend() though the cost is hardly less", dear.mend(), 1);
        due("the only day with a permit", dear.dayOf(2), 1);
        due("the other went to the day 0", dear.dayOf(1), 0);

        BacklotPlanner least = planner(1);
        least.plays(0, 0, BacklotPlanner.ANY);
        least.plays(0, 1, 3);
        least.plays(0, 2, 5);
        least.away(0, 0, true);
        due("mend() where costs fall from day to day", least.mend(), 1);
        due("the lowest of the days of least cost", least.dayOf(0), 5);
        least.plays(0, 1, 0);
        least.away(0, 5, true);
        due("mend() where costs rise at first", least.mend(), 1);
        due("the lowest of them again", least.dayOf(0), 6);

        BacklotPlanner middle = planner(1);
        middle.scene(1, 0);
        middle.scene(1, 0);
        middle.scene(0, 0);
        middle.plays(1, 0, BacklotPlanner.ANY);
        middle.plays(1, 1, 3);
        middle.swap(2, 5);
        middle.away(0, 1, true);
        middle.plays(3, 2, BacklotPlanner.ANY);
        middle.away(2, 1, true);
        due("cost()", middle.cost(), 20 + 3 + 2 + 2 + 2);
        due("mend() where costs rise and fall", middle.mend(), 1);
        due("the lowest day of the least cost", middle.dayOf(1), 4);

        BacklotPlanner two = planner(2);
        two.plays(0, 0, BacklotPlanner.ANY);
        two.plays(1, 1, BacklotPlanner.ANY);
        two.away(0, 0, true);
        two.away(1, 1, true);
        due("mend() of two by one swap", two.mend(), 1);
        due("refused() then", two.refused(), 0);

        BacklotPlanner none = new BacklotPlanner();
        none.scene(0, 1);
        none.scene(0, 2);
        due("mend() without a permit", none.mend(), 0);
        none.permit(0, 5, 6, 2);
        due("mend() of two", none.mend(), 2);
        due("the days", none.dayOf(0) * 10 + none.dayOf(1), 56);
        pass(none, 30);
        due("mend() when all days are over", none.mend(), 0);
    }

    private static void better() {
        promise = 15;
        BacklotPlanner x = new BacklotPlanner();
        for (int i = 0; i < 6; i++) {
            x.scene(i % 3, 0);
        }
        due("cost()", x.cost(), 10);
        due("better()", x.better(), 2);
        due("cost() then", x.cost(), 4);
        due("better() again", x.better(), 0);

        BacklotPlanner tie = new BacklotPlanner();
        tie.scene(0, 0);
        tie.scene(1, 0);
        tie.scene(0, 0);
        due("better() of equal swaps", tie.better(), 1);
        due("the lowest first day, then the lowest second one", tie.sceneOn(0) * 100 + tie.sceneOn(1) * 10 + tie.sceneOn(2), 102);
        due("cost()", tie.cost(), 2);

        BacklotPlanner free = planner(1);
        free.plays(0, 0, 2);
        due("better() waits for a beard", free.better(), 1);
        due("until the lowest day that will do", free.dayOf(0), 2);

        BacklotPlanner late = new BacklotPlanner();
        late.scene(0, 0);
        late.scene(1, 0);
        late.scene(2, 0);
        late.scene(1, 0);
        pass(late, 1);
        due("better() of the days left", late.better(), 1);
        due("cost() then", late.cost(), 4);
        due("the scene of the day 1", late.sceneOn(1), 2);

        BacklotPlanner fire = new BacklotPlanner();
        fire.scene(0, 3);
        fire.permit(0, 4, 9, 3);
        due("better() of a refused scene", fire.better(), 1);
        due("its day", fire.dayOf(0), 4);
        BacklotPlanner early = planner(1);
        early.scene(1, 0);
        early.plays(1, 0, 0);
        early.scene(0, 0);
        early.plays(2, 0, 6);
        early.swap(0, 4);
        early.swap(2, 6);
        due("cost()", early.cost(), 2 + 3);
        due("better() that takes the free day ahead", early.better(), 1);
        due("the days", early.dayOf(0) * 10000 + early.dayOf(1) * 100 + early.dayOf(2), 40006);
        due("better() of nothing", new BacklotPlanner().better(), 0);
    }

    private static BacklotPlanner onlyIn(int[] order) {
        BacklotPlanner x = planner(5);
        for (int i = 0; i < 5; i++) {
            x.plays(i, i, BacklotPlanner.ANY);
            for (int day = 0; day < 5; day++) {
                x.away(i, day, day != order[i]);
            }
        }
        return x;
    }

    private static void least() {
        promise = 16;
        BacklotPlanner x = new BacklotPlanner();
        due("least() of nothing", x.least(), 0);
        for (int i = 0; i < 5; i++) {
            x.scene(i % 2, 0);
        }
        x.swap(4, 20);
        due("cost()", x.cost(), 8);
        due("least()", x.least(), 2);
        due("cost() is kept", x.cost(), 8);
        for (int i = 0; i < 4; i++) {
            due("dayOf(" + i + ") is kept", x.dayOf(i), i);
        }
        due("dayOf(4) is kept", x.dayOf(4), 20);
        x.scene(0, 0);
        fails("least() of 6 scenes", STATE, () -> x.least());
        x.cut(5);
        due("least() when one is cut", x.least(), 2);

        BacklotPlanner fixed = planner(2);
        fixed.plays(0, 0, 5);
        due("only the days with scenes are tried", fixed.least(), 3);
        fixed.swap(1, 5);
        due("a day late enough", fixed.least(), 0);

        BacklotPlanner ring = new BacklotPlanner();
        for (int i = 0; i < 3; i++) {
            ring.scene(0, 0);
            ring.plays(i, i, BacklotPlanner.ANY);
            for (int day = 0; day < 30; day++) {
                ring.away(i, day, day != (i + 1) % 3);
            }
        }
        due("cost() of scenes that all are refused", ring.cost(), 60);
        due("least() of an order that is a ring", ring.least(), 0);
        pass(ring, 30);
        due("least() when all days are over", ring.least(), 0);

        int[] order = new int[5];
        for (int code = 0; code < 5 * 5 * 5 * 5 * 5; code++) {
            int rest = code;
            int seen = 0;
            for (int i = 0; i < 5; i++) {
                order[i] = rest % 5;
                rest /= 5;
                seen |= 1 << order[i];
            }
            if (seen == 31) {
                due("least() of a single fitting order", onlyIn(order).least(), 0);
            }
        }

        BacklotPlanner many = planner(7);
        pass(many, 2);
        due("least() when 5 are left", many.least(), 0);
    }

    private static void counts() {
        BacklotPlanner x = new BacklotPlanner();
        promise = 17;
        due("today()", x.today(), 0);
        pass(x, 2);
        due("today() after two days", x.today(), 2);
        promise = 18;
        x.buy(0);
        x.buy(1);
        due("spent()", x.spent(), 10);
        x.scene(0, 4);
        x.shoot();
        due("spent() with a scene put off", x.spent(), 10);
        promise = 20;
        x.cut(0);
        due("scenes() counts those that are CUT", x.scenes(), 1);
        x.scene(0, 0);
        x.shoot();
        due("scenes() counts those that are SHOT", x.scenes(), 2);
    }

    private static void cost() {
        promise = 19;
        BacklotPlanner x = new BacklotPlanner();
        x.scene(0, 0);
        x.scene(1, 2);
        x.plays(1, 0, 4);
        x.uses(1, 0, 1, 3);
        due("cost() with a refused scene", x.cost(), 2 + 3 + 6 + 20);
        due("it is asked, not spent", x.spent(), 0);
        due("cost() again", x.cost(), 31);
        due("copies are not bought", x.copies(0, 3), 0);
        x.permit(1, 0, 29, 2);
        due("cost() with a permit", x.cost(), 11);
        x.swap(1, 4);
        due("cost() with the beard grown till then", x.cost(), 8);
        x.buy(0);
        due("cost() with a copy there", x.cost(), 3);
        x.shoot();
        due("cost() with the set as it is", x.cost(), 3);
        x.shoot();
        due("cost() of a later day", x.cost(), 3);
        x.cut(1);
        due("cost() without scenes", x.cost(), 0);

        BacklotPlanner y = planner(2);
        y.plays(0, 0, 0);
        y.plays(1, 0, 20);
        y.swap(1, 20);
        due("cost() with a beard of 20 days", y.cost(), 0);
        y.swap(20, 19);
        due("cost() with a beard of 19 days", y.cost(), 3);
        y.away(0, 0, true);
        due("a refused scene shaves too", y.cost(), 23);
        y.swap(0, 3);
        due("a refused scene no more", y.cost(), 3);
    }

    private static void stateOf() {
        promise = 21;
        BacklotPlanner x = planner(3);
        pass(x, 1);
        x.cut(2);
        due("stateOf(0)", x.stateOf(0), BacklotPlanner.SHOT);
        due("stateOf(1)", x.stateOf(1), BacklotPlanner.PLANNED);
        due("stateOf(2)", x.stateOf(2), BacklotPlanner.CUT);
        for (int scene : new int[] {-1, 3, 9, 10, LOW, HIGH}) {
            fails("stateOf(" + scene + ")", INDEX, () -> x.stateOf(scene));
        }
    }

    private static void dayOf() {
        promise = 22;
        BacklotPlanner x = planner(3);
        x.swap(1, 6);
        x.swap(0, 2);
        due("dayOf(1)", x.dayOf(1), 6);
        pass(x, 3);
        due("dayOf(0), which is SHOT", x.dayOf(0), 2);
        due("dayOf(2), which is SHOT", x.dayOf(2), 0);
        x.cut(1);
        due("dayOf(1), which is CUT", x.dayOf(1), BacklotPlanner.NONE);
        for (int scene : new int[] {-1, 3, 10, LOW, HIGH}) {
            fails("dayOf(" + scene + ")", INDEX, () -> x.dayOf(scene));
        }
    }

    private static void sceneOn() {
        promise = 23;
        BacklotPlanner x = planner(2);
        due("sceneOn(1)", x.sceneOn(1), 1);
        due("sceneOn(2)", x.sceneOn(2), BacklotPlanner.NONE);
        pass(x, 1);
        due("sceneOn(0), when it is SHOT", x.sceneOn(0), BacklotPlanner.NONE);
        x.swap(1, 29);
        due("sceneOn(29)", x.sceneOn(29), 1);
        for (int day : new int[] {-1, 30, LOW, HIGH}) {
            fails("sceneOn(" + day + ")", ARGUMENT, () -> x.sceneOn(day));
        }
    }

    private static void refused() {
        promise = 24;
        BacklotPlanner x = planner(1);
        x.scene(1, 1);
        x.scene(1, 0);
        x.plays(0, 2, 0);
        x.plays(2, 2, 0);
        due("refused() without flames or absence", x.refused(), 1);
        x.away(2, 0, true);
        x.away(2, 2, true);
        due("refused()", x.refused(), 3);
        x.cut(1);
        due("refused() when one is CUT", x.refused(), 2);
        x.away(2, 0, false);
        x.shoot();
        x.away(2, 0, true);
        due("refused() when one is SHOT", x.refused(), 1);
        x.swap(2, 3);
        due("refused() when it is moved", x.refused(), 0);
    }

    private static void isAllowed() {
        promise = 25;
        BacklotPlanner x = new BacklotPlanner();
        x.scene(0, 1);
        x.scene(0, 0);
        x.plays(1, 3, BacklotPlanner.ANY);
        x.permit(0, 0, 0, 1);
        x.away(3, 0, true);
        due("isAllowed(0, 0)", x.isAllowed(0, 0), true);
        due("isAllowed(0, 29)", x.isAllowed(0, 29), false);
        due("isAllowed(1, 0)", x.isAllowed(1, 0), false);
        due("isAllowed(1, 29)", x.isAllowed(1, 29), true);
        x.plays(0, 3, 0);
        due("a permit, but an actor away", x.isAllowed(0, 0), false);
        x.away(3, 0, false);
        x.shoot();
        x.cut(1);
        due("a scene that is SHOT, on a day that is over", x.isAllowed(0, 0), true);
        due("a scene that is CUT", x.isAllowed(1, 0), true);
        x.revoke(0);
        due("without the permit", x.isAllowed(0, 0), false);
        for (int scene : new int[] {-1, 2, 10, LOW, HIGH}) {
            fails("isAllowed(" + scene + ", 30)", INDEX, () -> x.isAllowed(scene, 30));
        }
        for (int day : new int[] {-1, 30, LOW, HIGH}) {
            fails("isAllowed(0, " + day + ")", ARGUMENT, () -> x.isAllowed(0, day));
        }
    }

    private static void ahead() {
        promise = 26;
        BacklotPlanner x = planner(5);
        x.uses(0, 2, 0, 1);
        x.uses(2, 2, 1, 2);
        x.uses(3, 2, 3, 3);
        due("ahead(0, 2)", x.ahead(0, 2), 0);
        due("ahead(1, 2)", x.ahead(1, 2), 1);
        due("ahead(2, 2)", x.ahead(2, 2), 1);
        due("ahead(3, 2)", x.ahead(3, 2), 2);
        due("ahead(4, 2)", x.ahead(4, 2), 3);
        due("ahead(4, 1)", x.ahead(4, 1), 0);
        x.cut(3);
        due("ahead(4, 2) when the latest is CUT", x.ahead(4, 2), 2);
        due("ahead(3, 2) of one that is CUT", x.ahead(3, 2), 2);
        pass(x, 3);
        due("ahead(4, 2) when it is SHOT", x.ahead(4, 2), 2);
        for (int[] a : new int[][] {{-1, 0}, {5, 0}, {0, -1}, {0, 5}, {LOW, 0}, {HIGH, 0}, {0, LOW}, {0, HIGH}}) {
            fails("ahead(" + a[0] + ", " + a[1] + ")", INDEX, () -> x.ahead(a[0], a[1]));
        }
    }

    private static void copies() {
        promise = 27;
        BacklotPlanner x = planner(1);
        x.uses(0, 4, 1, 2);
        x.shoot();
        x.buy(4);
        x.buy(4);
        x.buy(4);
        x.mishap(4, 0);
        due("copies(4, 0)", x.copies(4, 0), 2);
        due("copies(4, 1)", x.copies(4, 1), 0);
        due("copies(4, 2)", x.copies(4, 2), 1);
        due("copies(4, 3)", x.copies(4, 3), 1);
        due("copies(3, 0)", x.copies(3, 0), 0);
        for (int prop : new int[] {-1, 5, LOW, HIGH}) {
            fails("copies(" + prop + ", 4)", INDEX, () -> x.copies(prop, 4));
        }
        for (int state : new int[] {-1, 4, LOW, HIGH}) {
            fails("copies(0, " + state + ")", ARGUMENT, () -> x.copies(0, state));
        }
    }

    private static void growth() {
        promise = 28;
        BacklotPlanner x = planner(1);
        due("growth(4)", x.growth(4), 0);
        x.plays(0, 4, 0);
        x.swap(0, 7);
        pass(x, 7);
        due("growth(4) after 7 days", x.growth(4), 7);
        x.shoot();
        due("growth(4), shaved on the day 7", x.growth(4), 1);
        due("growth(0)", x.growth(0), 8);
        pass(x, 12);
        due("growth(0) after 20 days", x.growth(0), 20);
        pass(x, 1);
        due("growth(0) after 21 days", x.growth(0), 20);
        due("growth(4) then", x.growth(4), 14);
        for (int actor : new int[] {-1, 5, LOW, HIGH}) {
            fails("growth(" + actor + ")", INDEX, () -> x.growth(actor));
        }
    }

    public static void main(String[] args) {
        newObject();
        scene();
        plays();
        uses();
        cut();
        swap();
        permit();
        revoke();
        away();
        buy();
        clear();
        mishap();
        shoot();
        puttingOff();
        serving();
        mend();
        better();
        least();
        counts();
        cost();
        stateOf();
        dayOf();
        sceneOn();
        refused();
        isAllowed();
        ahead();
        copies();
        growth();
        System.out.println(wrong == 0 ? "all promises hold" : wrong + " answers are not as due");
        if (wrong != 0) {
            System.exit(1);
        }
    }
}
