import java.util.function.Supplier;

/** A test for each sentence of the promises 17 to 28 that names a boundary case. */
public final class AnswerEdgesTest extends Edges {
    private static final Supplier<BacklotPlanner> OVER = after(x -> {
        x.scene(0, 1);
        scenes(x, 2);
        x.uses(1, 0, 0, 2);
        shoot(x, 30);
    });
    private static final Supplier<BacklotPlanner> FULL = after(x -> scenes(x, 10));
    private static final int[] NO_SCENES = {-1, 10, LOW, HIGH};
    private static final int[] NO_FIVES = {-1, 5, LOW, HIGH};
    private static final int[] NO_DAYS = {-1, 30, LOW, HIGH};

    private static void counts() {
        sentence("17: Returns today.", () -> {
            changesNothing(EMPTY, 0, "today");
            changesNothing(after(x -> shoot(x, 1)), 1, "today");
            changesNothing(after(x -> shoot(x, 29)), 29, "today");
            changesNothing(OVER, 30, "today");
        });
        sentence("18: Returns what was spent so far.", () -> {
            changesNothing(EMPTY, 0, "spent");
            changesNothing(OVER, 5, "spent");
            BacklotPlanner x = new BacklotPlanner();
            x.scene(0, 1);
            x.scene(1, 0);
            x.plays(1, 0, 20);
            x.uses(1, 0, 3, 3);
            due(x, 0, "spent");
            x.shoot();
            due(x, 0, "spent");
            x.shoot();
            due(x, 3 + 8, "spent");
            x.buy(0);
            due(x, 3 + 8 + 5, "spent");
            x.mishap(0, 0);
            x.clear();
            x.cut(0);
            due(x, 3 + 8 + 5, "spent");
        });
        sentence("19: Returns the cost of the plan.", () -> {
            changesNothing(EMPTY, 0, "cost");
            changesNothing(OVER, 0, "cost");
            changesNothing(FULL, 0, "cost");
            changesNothing(after(x -> {
                shoot(x, 29);
                x.scene(0, 1);
                x.uses(0, 0, 3, 3);
                x.plays(0, 0, ANY);
                x.plays(0, 1, 20);
            }), 20 + 8, "cost");
            BacklotPlanner most = new BacklotPlanner();
            for (int scene = 0; scene < 10; scene++) {
                most.scene(scene % 2, 1);
                for (int i = 0; i < 5; i++) {
                    most.plays(scene, i, 20);
                    most.uses(scene, i, 3, 3);
                }
            }
            due(most, 10 * (20 + 15) + 9 * 2 + 5 * 8, "cost");
        });
        sentence("20: Returns how many scenes were added.", () -> {
            changesNothing(EMPTY, 0, "scenes");
            changesNothing(FULL, 10, "scenes");
            changesNothing(OVER, 3, "scenes");
            BacklotPlanner x = FULL.get();
            x.cut(9);
            x.shoot();
            due(x, STATE, "scene", 0, 0);
            due(x, 10, "scenes");
        });
    }

    private static void scenesAndDays() {
        sentence("21: Returns PLANNED, SHOT or CUT.", () -> {
            BacklotPlanner x = new BacklotPlanner();
            scenes(x, 3);
            due(x, PLANNED, "stateOf", 0);
            x.shoot();
            due(x, SHOT, "stateOf", 0);
            x.cut(1);
            due(x, CUT, "stateOf", 1);
            due(x, PLANNED, "stateOf", 2);
            due(OVER.get(), CUT, "stateOf", 0);
            due(OVER.get(), SHOT, "stateOf", 2);
        });
        sentence("21: IndexOutOfBoundsException if there is no such scene", () -> {
            changesNothing(EMPTY, INDEX, "stateOf", 0);
            changesNothing(OVER, INDEX, "stateOf", 3);
            for (int scene : NO_SCENES) {
                changesNothing(FULL, INDEX, "stateOf", scene);
            }
            changesNothing(FULL, PLANNED, "stateOf", 0);
            changesNothing(FULL, PLANNED, "stateOf", 9);
        });
        sentence("22: Returns the day for which it is PLANNED, or on which it was SHOT", () -> {
            BacklotPlanner x = new BacklotPlanner();
            scenes(x, 2);
            due(x, 0, "dayOf", 0);
            x.swap(1, 29);
            due(x, 29, "dayOf", 1);
            shoot(x, 29);
            due(x, 0, "dayOf", 0);
            due(x, 29, "dayOf", 1);
            x.shoot();
            due(x, 0, "dayOf", 0);
            due(x, 29, "dayOf", 1);
        });
        sentence("22: NONE if it is CUT.", () -> {
            BacklotPlanner x = FULL.get();
            x.cut(0);
            x.cut(9);
            due(x, NONE, "dayOf", 0);
            due(x, NONE, "dayOf", 9);
            due(x, 8, "dayOf", 8);
            due(OVER.get(), NONE, "dayOf", 0);
        });
        sentence("22: IndexOutOfBoundsException if there is no such scene", () -> {
            changesNothing(EMPTY, INDEX, "dayOf", 0);
            changesNothing(OVER, INDEX, "dayOf", 3);
            for (int scene : NO_SCENES) {
                changesNothing(FULL, INDEX, "dayOf", scene);
            }
            changesNothing(FULL, 0, "dayOf", 0);
            changesNothing(FULL, 9, "dayOf", 9);
        });
        sentence("23: Returns the scene that is planned for a day, not one that was SHOT on it.", () -> {
            BacklotPlanner x = new BacklotPlanner();
            scenes(x, 2);
            due(x, 0, "sceneOn", 0);
            x.shoot();
            due(x, NONE, "sceneOn", 0);
            due(x, 1, "sceneOn", 1);
            x.swap(1, 29);
            due(x, 1, "sceneOn", 29);
            shoot(x, 29);
            due(x, NONE, "sceneOn", 29);
        });
        sentence("23: NONE if there is none.", () -> {
            for (int day = 0; day < 30; day++) {
                due(EMPTY.get(), NONE, "sceneOn", day);
                due(OVER.get(), NONE, "sceneOn", day);
                due(FULL.get(), day < 10 ? day : NONE, "sceneOn", day);
            }
            BacklotPlanner x = FULL.get();
            x.cut(4);
            due(x, NONE, "sceneOn", 4);
            due(x, 5, "sceneOn", 5);
        });
        sentence("23: day: 0 to 29", () -> {
            for (int day : NO_DAYS) {
                changesNothing(FULL, ARGUMENT, "sceneOn", day);
            }
            changesNothing(OVER, ARGUMENT, "sceneOn", 30);
            changesNothing(FULL, 0, "sceneOn", 0);
            changesNothing(FULL, NONE, "sceneOn", 29);
        });
    }

    private static void permission() {
        sentence("24: Returns how many scenes are refused.", () -> {
            changesNothing(EMPTY, 0, "refused");
            changesNothing(FULL, 0, "refused");
            changesNothing(OVER, 0, "refused");
            changesNothing(after(x -> {
                for (int i = 0; i < 10; i++) {
                    x.scene(0, 1);
                }
                x.swap(9, 29);
            }), 10, "refused");
            BacklotPlanner x = new BacklotPlanner();
            x.scene(0, 1);
            due(x, 1, "refused");
            x.shoot();
            due(x, 1, "refused");
            x.permit(0, 0, 0, 1);
            due(x, 1, "refused");
            x.permit(0, 1, 1, 1);
            due(x, 0, "refused");
            shoot(x, 1);
            x.revoke(1);
            due(x, 0, "refused");
            x.scene(0, 1);
            x.cut(1);
            due(x, 0, "refused");
        });
        sentence("25: Returns whether it would be.", () -> {
            Supplier<BacklotPlanner> some = after(x -> {
                x.scene(0, 3);
                x.scene(1, 0);
                x.permit(0, 29, 29, 3);
                x.plays(1, 4, ANY);
                x.away(4, 29, true);
                x.away(4, 1, true);
            });
            changesNothing(some, false, "isAllowed", 0, 0);
            changesNothing(some, false, "isAllowed", 0, 28);
            changesNothing(some, true, "isAllowed", 0, 29);
            changesNothing(some, true, "isAllowed", 1, 0);
            changesNothing(some, false, "isAllowed", 1, 1);
            changesNothing(some, true, "isAllowed", 1, 28);
            changesNothing(some, false, "isAllowed", 1, 29);
        });
        sentence("25: it tells this of scenes that are SHOT or CUT, and of days that are over, too", () -> {
            BacklotPlanner x = new BacklotPlanner();
            scenes(x, 2);
            x.plays(0, 0, ANY);
            x.plays(1, 0, ANY);
            x.shoot();
            x.cut(1);
            shoot(x, 29);
            x.away(0, 0, true);
            for (int scene = 0; scene < 2; scene++) {
                due(x, false, "isAllowed", scene, 0);
                due(x, true, "isAllowed", scene, 1);
                due(x, true, "isAllowed", scene, 29);
            }
        });
        sentence("25: IndexOutOfBoundsException if there is no such scene", () -> {
            changesNothing(EMPTY, INDEX, "isAllowed", 0, 0);
            for (int scene : NO_SCENES) {
                changesNothing(FULL, INDEX, "isAllowed", scene, 0);
            }
            changesNothing(FULL, true, "isAllowed", 0, 0);
            changesNothing(FULL, true, "isAllowed", 9, 0);
        });
        sentence("25: IllegalArgumentException if day is out of range", () -> {
            for (int day : NO_DAYS) {
                changesNothing(FULL, ARGUMENT, "isAllowed", 0, day);
            }
            changesNothing(OVER, ARGUMENT, "isAllowed", 0, 30);
            changesNothing(FULL, true, "isAllowed", 0, 29);
        });
        sentence("25: of several exceptions the one for the index is first", () -> {
            changesNothing(EMPTY, INDEX, "isAllowed", 0, 30);
            changesNothing(FULL, INDEX, "isAllowed", -1, -1);
        });
    }

    private static void copiesAndBeards() {
        sentence("26: the one to which it is used by the latest scene before that uses it and is not CUT", () -> {
            BacklotPlanner x = FULL.get();
            x.uses(1, 3, 0, 1);
            x.uses(4, 3, 1, 2);
            x.uses(9, 3, 3, 3);
            int[] ahead = {0, 0, 1, 1, 1, 2, 2, 2, 2, 2};
            for (int scene = 0; scene < 10; scene++) {
                due(x, ahead[scene], "ahead", scene, 3);
                due(x, 0, "ahead", scene, 2);
            }
            x.cut(4);
            due(x, 1, "ahead", 4, 3);
            due(x, 1, "ahead", 5, 3);
            due(x, 1, "ahead", 9, 3);
            shoot(x, 2);
            due(x, 1, "ahead", 9, 3);
            due(x, 0, "ahead", 1, 3);
        });
        sentence("26: the order of the story counts, not that of the days", () -> {
            BacklotPlanner x = new BacklotPlanner();
            scenes(x, 2);
            x.uses(0, 0, 0, 3);
            x.swap(0, 1);
            due(x, 3, "ahead", 1, 0);
            due(x, 0, "ahead", 0, 0);
        });
        sentence("26: 0 if there is no such scene before.", () -> {
            changesNothing(FULL, 0, "ahead", 0, 0);
            changesNothing(FULL, 0, "ahead", 9, 4);
            BacklotPlanner x = FULL.get();
            x.uses(5, 0, 3, 3);
            due(x, 0, "ahead", 5, 0);
            due(x, 3, "ahead", 6, 0);
            x.cut(5);
            due(x, 0, "ahead", 6, 0);
        });
        sentence("26: IndexOutOfBoundsException if there is no such scene", () -> {
            changesNothing(EMPTY, INDEX, "ahead", 0, 0);
            changesNothing(OVER, INDEX, "ahead", 3, 0);
            changesNothing(OVER, 2, "ahead", 2, 0);
            for (int scene : NO_SCENES) {
                changesNothing(FULL, INDEX, "ahead", scene, 0);
            }
        });
        sentence("26: IndexOutOfBoundsException if there is no such prop", () -> {
            for (int prop : NO_FIVES) {
                changesNothing(FULL, INDEX, "ahead", 0, prop);
            }
            changesNothing(FULL, 0, "ahead", 0, 4);
            changesNothing(FULL, INDEX, "ahead", 10, 5);
        });
        sentence("27: prop: 0 to 4", () -> {
            for (int prop : NO_FIVES) {
                changesNothing(EMPTY, INDEX, "copies", prop, 0);
            }
            changesNothing(EMPTY, 0, "copies", 0, 0);
            changesNothing(EMPTY, 0, "copies", 4, 3);
        });
        sentence("27: state: 0 to 3", () -> {
            for (int state : new int[] {-1, 4, LOW, HIGH}) {
                changesNothing(EMPTY, ARGUMENT, "copies", 0, state);
            }
            BacklotPlanner x = OVER.get();
            due(x, 1, "copies", 0, 2);
            due(x, 0, "copies", 0, 3);
            x.mishap(0, 2);
            due(x, 0, "copies", 0, 2);
            due(x, 1, "copies", 0, 3);
        });
        sentence("27: Returns how many.", () -> {
            BacklotPlanner x = new BacklotPlanner();
            for (int count = 0; count < 20; count++) {
                due(x, count, "copies", 4, 0);
                x.buy(4);
            }
            due(x, 20, "copies", 4, 0);
            due(x, STATE, "buy", 4);
            due(x, 20, "copies", 4, 0);
            due(x, 0, "copies", 3, 0);
            due(x, 0, "copies", 4, 1);
        });
        sentence("27: of several exceptions the one for the index is first", () -> {
            changesNothing(EMPTY, INDEX, "copies", 5, 4);
            changesNothing(EMPTY, INDEX, "copies", -1, -1);
        });
        sentence("28: Returns the growth.", () -> {
            changesNothing(EMPTY, 0, "growth", 0);
            changesNothing(after(x -> shoot(x, 19)), 19, "growth", 4);
            changesNothing(after(x -> shoot(x, 20)), 20, "growth", 4);
            changesNothing(after(x -> shoot(x, 21)), 20, "growth", 4);
            changesNothing(OVER, 20, "growth", 0);
            BacklotPlanner shaved = after(x -> shoot(x, 29)).get();
            scenes(shaved, 1);
            shaved.plays(0, 0, 0);
            shaved.shoot();
            due(shaved, 1, "growth", 0);
            due(shaved, 20, "growth", 1);
        });
        sentence("28: actor: 0 to 4", () -> {
            for (int actor : NO_FIVES) {
                changesNothing(EMPTY, INDEX, "growth", actor);
            }
            changesNothing(EMPTY, 0, "growth", 4);
        });
    }

    public static void main(String[] args) {
        counts();
        scenesAndDays();
        permission();
        copiesAndBeards();
        end();
    }
}
