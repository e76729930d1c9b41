import java.util.function.Supplier;

/** A test for each sentence of the promises 1 to 6 that names a boundary case. */
public final class SceneEdgesTest extends Edges {
    private static final Supplier<BacklotPlanner> OVER = after(x -> {
        scenes(x, 2);
        shoot(x, 30);
    });
    /** Three scenes on the day 1: SHOT, PLANNED and CUT. */
    private static final Supplier<BacklotPlanner> EACH_STATE = after(x -> {
        scenes(x, 3);
        x.shoot();
        x.cut(2);
    });

    private static void newObject() {
        sentence("1: No scenes, copies and permits", () -> {
            BacklotPlanner x = new BacklotPlanner();
            due(x, 0, "scenes");
            due(x, INDEX, "stateOf", 0);
            due(x, INDEX, "revoke", 0);
            due(x, 0, "clear");
            for (int day = 0; day < 30; day++) {
                due(x, NONE, "sceneOn", day);
            }
            for (int prop = 0; prop < 5; prop++) {
                for (int state = 0; state < 4; state++) {
                    due(x, 0, "copies", prop, state);
                }
            }
            due(x, 0, "permit", 0, 0, 0, 1);
            due(x, 0, "scene", 0, 0);
        });
        sentence("1: nobody is away", () -> {
            BacklotPlanner x = new BacklotPlanner();
            for (int actor = 0; actor < 5; actor++) {
                for (int day = 0; day < 30; day++) {
                    due(x, false, "away", actor, day, true);
                }
            }
        });
        sentence("1: nothing spent", () -> {
            BacklotPlanner x = new BacklotPlanner();
            due(x, 0, "spent");
            due(x, 0, "cost");
            due(x, 0, "least");
        });
        sentence("1: of two new objects each one is for itself", () -> {
            BacklotPlanner x = new BacklotPlanner();
            BacklotPlanner y = new BacklotPlanner();
            x.scene(0, 1);
            x.permit(0, 0, 0, 1);
            x.buy(0);
            x.away(0, 0, true);
            shoot(x, 1);
            due(y, 0, "scenes");
            due(y, 0, "spent");
            due(y, 0, "today");
            due(y, 0, "growth", 0);
            due(y, 0, "copies", 0, 0);
            due(y, false, "away", 0, 0, true);
            due(y, 0, "permit", 0, 0, 0, 1);
        });
    }

    private static void scene() {
        sentence("2: it is planned for the day behind the last one for which a scene is planned", () -> {
            BacklotPlanner x = new BacklotPlanner();
            scenes(x, 2);
            due(x, 1, "dayOf", 1);
            x.swap(0, 17);
            x.scene(0, 0);
            due(x, 18, "dayOf", 2);
            x.cut(2);
            x.scene(0, 0);
            due(x, 18, "dayOf", 3);
            x.cut(3);
            x.cut(0);
            x.scene(0, 0);
            due(x, 2, "dayOf", 4);
        });
        sentence("2: or for today, if there is none", () -> {
            BacklotPlanner x = new BacklotPlanner();
            x.scene(0, 0);
            due(x, 0, "dayOf", 0);
            x.cut(0);
            x.scene(0, 0);
            due(x, 0, "dayOf", 1);
            x.shoot();
            x.scene(0, 0);
            due(x, 1, "dayOf", 2);
            shoot(x, 28);
            x.scene(0, 0);
            due(x, 29, "today");
            due(x, 29, "dayOf", 3);
        });
        sentence("2: set: 0 to 3", () -> {
            for (int set : new int[] {-1, 4, LOW, HIGH}) {
                changesNothing(EMPTY, ARGUMENT, "scene", set, 0);
            }
            due(EMPTY.get(), 0, "scene", 0, 0);
            due(EMPTY.get(), 0, "scene", 3, 0);
        });
        sentence("2: flames: 0 to 9", () -> {
            for (int flames : new int[] {-1, 10, LOW, HIGH}) {
                changesNothing(EMPTY, ARGUMENT, "scene", 0, flames);
            }
            due(EMPTY.get(), 0, "scene", 0, 0);
            due(EMPTY.get(), 0, "scene", 0, 9);
        });
        sentence("2: Returns its number.", () -> {
            BacklotPlanner x = new BacklotPlanner();
            due(x, 0, "scene", 0, 0);
            x.shoot();
            due(x, 1, "scene", 0, 0);
            x.cut(1);
            due(x, 2, "scene", 0, 0);
        });
        sentence("2: IllegalStateException if there are 10", () -> {
            Supplier<BacklotPlanner> nine = after(x -> scenes(x, 9));
            due(nine.get(), 9, "scene", 0, 0);
            changesNothing(after(x -> scenes(x, 10)), STATE, "scene", 0, 0);
            changesNothing(after(x -> {
                scenes(x, 10);
                x.cut(9);
                x.cut(0);
            }), STATE, "scene", 0, 0);
            changesNothing(after(x -> {
                scenes(x, 10);
                shoot(x, 10);
            }), STATE, "scene", 0, 0);
        });
        sentence("2: or that day would be above 29", () -> {
            Supplier<BacklotPlanner> room = after(x -> {
                scenes(x, 1);
                x.swap(0, 28);
            });
            due(room.get(), 1, "scene", 0, 0);
            Supplier<BacklotPlanner> full = after(x -> {
                scenes(x, 1);
                x.swap(0, 29);
            });
            changesNothing(full, STATE, "scene", 0, 0);
            BacklotPlanner again = full.get();
            again.cut(0);
            due(again, 1, "scene", 0, 0);
            due(again, 0, "dayOf", 1);
            changesNothing(after(x -> shoot(x, 30)), STATE, "scene", 0, 0);
            due(after(x -> shoot(x, 29)).get(), 0, "scene", 0, 0);
        });
        sentence("2: of several exceptions the one for the arguments is first", () -> {
            changesNothing(after(x -> scenes(x, 10)), ARGUMENT, "scene", 4, 0);
            changesNothing(after(x -> scenes(x, 10)), ARGUMENT, "scene", 0, -1);
            changesNothing(OVER, ARGUMENT, "scene", 0, 10);
            changesNothing(OVER, STATE, "scene", 3, 9);
        });
    }

    private static void plays() {
        sentence("3: IndexOutOfBoundsException if there is no such scene", () -> {
            changesNothing(EMPTY, INDEX, "plays", 0, 0, 0);
            for (int scene : new int[] {-1, 3, 9, 10, LOW, HIGH}) {
                changesNothing(EACH_STATE, INDEX, "plays", scene, 0, 0);
            }
            BacklotPlanner x = new BacklotPlanner();
            scenes(x, 10);
            due(x, 1, "plays", 0, 0, 0);
            due(x, 1, "plays", 9, 0, 0);
            due(x, INDEX, "plays", 10, 0, 0);
        });
        sentence("3: IndexOutOfBoundsException if there is no such actor", () -> {
            for (int actor : new int[] {-1, 5, LOW, HIGH}) {
                changesNothing(EACH_STATE, INDEX, "plays", 1, actor, 0);
            }
            due(EACH_STATE.get(), 1, "plays", 1, 0, 0);
            due(EACH_STATE.get(), 1, "plays", 1, 4, 0);
        });
        sentence("3: beard: ANY, 0 for none, or 1 to 20 for a beard of at least this growth", () -> {
            for (int beard : new int[] {-2, 21, LOW, HIGH}) {
                changesNothing(EACH_STATE, ARGUMENT, "plays", 1, 0, beard);
            }
            for (int beard : new int[] {-1, 0, 1, 20}) {
                BacklotPlanner x = EACH_STATE.get();
                due(x, 1, "plays", 1, 0, beard);
                due(x, beard > 1 ? 3 : 0, "cost");
                x.shoot();
                due(x, beard == 0 ? 1 : 2, "growth", 0);
            }
        });
        sentence("3: or with another beard than before", () -> {
            BacklotPlanner x = new BacklotPlanner();
            scenes(x, 2);
            due(x, 1, "plays", 1, 0, 2);
            due(x, 3, "cost");
            due(x, 1, "plays", 1, 0, 1);
            due(x, 0, "cost");
            due(x, 1, "plays", 1, 0, 20);
            due(x, 3, "cost");
            due(x, 1, "plays", 1, 0, ANY);
            due(x, 0, "cost");
        });
        sentence("3: Returns how many actors the scene has then.", () -> {
            BacklotPlanner x = new BacklotPlanner();
            scenes(x, 2);
            for (int actor = 0; actor < 5; actor++) {
                due(x, actor + 1, "plays", 0, actor, actor - 1);
            }
            due(x, 5, "plays", 0, 4, ANY);
            due(x, 5, "plays", 0, 0, 0);
            due(x, 1, "plays", 1, 4, ANY);
        });
        sentence("3: IllegalStateException if the scene is not PLANNED", () -> {
            changesNothing(EACH_STATE, STATE, "plays", 0, 0, 0);
            due(EACH_STATE.get(), 1, "plays", 1, 0, 0);
            changesNothing(EACH_STATE, STATE, "plays", 2, 0, 0);
            changesNothing(OVER, STATE, "plays", 1, 0, 0);
            BacklotPlanner off = new BacklotPlanner();
            off.scene(0, 1);
            off.shoot();
            due(off, 1, "plays", 0, 0, 0);
        });
        sentence("3: of several exceptions the one for the index, then the one for the argument is first", () -> {
            changesNothing(EACH_STATE, INDEX, "plays", 3, 0, 21);
            changesNothing(EACH_STATE, INDEX, "plays", 0, 5, 21);
            changesNothing(EACH_STATE, INDEX, "plays", 0, 5, 0);
            changesNothing(EACH_STATE, INDEX, "plays", 1, -1, -2);
            changesNothing(EACH_STATE, ARGUMENT, "plays", 0, 4, 21);
            changesNothing(EACH_STATE, ARGUMENT, "plays", 2, 0, -2);
        });
    }

    /** Three scenes that use the prop 0: to 1, from 1 to 2 and from 2; on the day 0. */
    private static final Supplier<BacklotPlanner> CHAIN = after(x -> {
        scenes(x, 3);
        x.uses(0, 0, 0, 1);
        x.uses(1, 0, 1, 2);
        x.uses(2, 0, 2, 3);
    });

    private static void uses() {
        sentence("4: IndexOutOfBoundsException if there is no such scene", () -> {
            changesNothing(EMPTY, INDEX, "uses", 0, 0, 0, 0);
            for (int scene : new int[] {-1, 3, 9, 10, LOW, HIGH}) {
                changesNothing(CHAIN, INDEX, "uses", scene, 0, 0, 0);
            }
            due(CHAIN.get(), 1, "uses", 0, 0, 0, 0);
            due(CHAIN.get(), 1, "uses", 2, 0, 3, 3);
        });
        sentence("4: IndexOutOfBoundsException if there is no such prop", () -> {
            for (int prop : new int[] {-1, 5, LOW, HIGH}) {
                changesNothing(CHAIN, INDEX, "uses", 0, prop, 0, 0);
            }
            due(CHAIN.get(), 1, "uses", 0, 0, 0, 0);
            due(CHAIN.get(), 2, "uses", 0, 4, 0, 0);
        });
        sentence("4: from: 0 to 3", () -> {
            changesNothing(CHAIN, ARGUMENT, "uses", 1, 1, -1, 0);
            changesNothing(CHAIN, ARGUMENT, "uses", 1, 1, -1, -1);
            changesNothing(CHAIN, ARGUMENT, "uses", 1, 1, 4, 4);
            changesNothing(CHAIN, ARGUMENT, "uses", 1, 1, LOW, 3);
            changesNothing(CHAIN, ARGUMENT, "uses", 1, 1, HIGH, HIGH);
            due(CHAIN.get(), 2, "uses", 1, 1, 0, 3);
            due(CHAIN.get(), 2, "uses", 1, 1, 3, 3);
        });
        sentence("4: to: from to 3", () -> {
            for (int from = 0; from < 4; from++) {
                changesNothing(CHAIN, ARGUMENT, "uses", 1, 1, from, from - 1);
                changesNothing(CHAIN, ARGUMENT, "uses", 1, 1, from, 4);
                due(CHAIN.get(), 2, "uses", 1, 1, from, from);
                due(CHAIN.get(), 2, "uses", 1, 1, from, 3);
            }
            changesNothing(CHAIN, ARGUMENT, "uses", 1, 1, 0, HIGH);
            changesNothing(CHAIN, ARGUMENT, "uses", 1, 1, 0, LOW);
        });
        sentence("4: or from and to other states than before", () -> {
            BacklotPlanner x = new BacklotPlanner();
            scenes(x, 2);
            due(x, 1, "uses", 0, 0, 3, 3);
            due(x, 8, "cost");
            due(x, 1, "uses", 0, 0, 1, 2);
            due(x, 6, "cost");
            due(x, 2, "ahead", 1, 0);
            due(x, 1, "uses", 0, 0, 0, 0);
            due(x, 5, "cost");
            due(x, 0, "ahead", 1, 0);
        });
        sentence("4: Returns how many props the scene uses then.", () -> {
            BacklotPlanner x = new BacklotPlanner();
            scenes(x, 2);
            for (int prop = 0; prop < 5; prop++) {
                due(x, prop + 1, "uses", 0, prop, 0, 0);
            }
            due(x, 5, "uses", 0, 4, 0, 0);
            due(x, 5, "uses", 0, 0, 3, 3);
            due(x, 1, "uses", 1, 0, 3, 3);
        });
        sentence("4: IllegalStateException if the scene is not PLANNED", () -> {
            changesNothing(EACH_STATE, STATE, "uses", 0, 0, 0, 0);
            due(EACH_STATE.get(), 1, "uses", 1, 0, 0, 0);
            changesNothing(EACH_STATE, STATE, "uses", 2, 0, 0, 0);
            changesNothing(OVER, STATE, "uses", 1, 0, 0, 0);
        });
        sentence("4: or the prop would not age only forwards in story order", () -> {
            due(CHAIN.get(), 1, "uses", 1, 0, 1, 1);
            due(CHAIN.get(), 1, "uses", 1, 0, 2, 2);
            changesNothing(CHAIN, STATE, "uses", 1, 0, 0, 2);
            changesNothing(CHAIN, STATE, "uses", 1, 0, 1, 3);
            changesNothing(CHAIN, STATE, "uses", 1, 0, 3, 3);
            changesNothing(CHAIN, STATE, "uses", 0, 0, 0, 2);
            due(CHAIN.get(), 1, "uses", 0, 0, 1, 1);
            changesNothing(CHAIN, STATE, "uses", 2, 0, 1, 3);
            due(CHAIN.get(), 1, "uses", 2, 0, 2, 2);
            due(CHAIN.get(), 2, "uses", 1, 1, 3, 3);
        });
        sentence("4: a scene further away in the story binds as well, and one between that does not use it frees none",
                () -> {
            Supplier<BacklotPlanner> apart = after(x -> {
                scenes(x, 10);
                x.uses(0, 2, 0, 1);
                x.uses(9, 2, 2, 2);
            });
            changesNothing(apart, STATE, "uses", 5, 2, 0, 1);
            changesNothing(apart, STATE, "uses", 5, 2, 1, 3);
            due(apart.get(), 1, "uses", 5, 2, 1, 2);
            changesNothing(apart, STATE, "uses", 9, 2, 0, 2);
            changesNothing(apart, STATE, "uses", 0, 2, 0, 3);
        });
        sentence("4: a scene that is CUT binds none, one that is SHOT does", () -> {
            BacklotPlanner x = CHAIN.get();
            x.cut(1);
            due(x, STATE, "uses", 0, 0, 0, 3);
            due(x, 1, "uses", 0, 0, 0, 2);
            x.shoot();
            due(x, STATE, "uses", 2, 0, 1, 1);
            due(x, 1, "uses", 2, 0, 2, 2);
        });
        sentence("4: the order of the days does not matter, that of the story does", () -> {
            BacklotPlanner x = new BacklotPlanner();
            scenes(x, 2);
            x.swap(0, 1);
            due(x, 1, "uses", 0, 0, 1, 2);
            due(x, STATE, "uses", 1, 0, 0, 1);
            due(x, 1, "uses", 1, 0, 2, 2);
        });
        sentence("4: of several exceptions the one for the index, then the one for the arguments is first", () -> {
            changesNothing(EACH_STATE, INDEX, "uses", 3, 0, 2, 1);
            changesNothing(EACH_STATE, INDEX, "uses", 0, 5, 2, 1);
            changesNothing(EACH_STATE, INDEX, "uses", 2, -1, 0, 0);
            changesNothing(EACH_STATE, ARGUMENT, "uses", 0, 0, 2, 1);
            changesNothing(EACH_STATE, ARGUMENT, "uses", 2, 4, 0, 4);
            changesNothing(CHAIN, ARGUMENT, "uses", 1, 0, 0, 4);
            changesNothing(CHAIN, ARGUMENT, "uses", 2, 0, 1, 0);
        });
    }

    private static void cut() {
        sentence("5: Returns the day for which it was planned.", () -> {
            BacklotPlanner x = new BacklotPlanner();
            scenes(x, 3);
            x.swap(1, 29);
            due(x, 0, "cut", 0);
            due(x, 29, "cut", 1);
            due(x, 2, "cut", 2);
            for (int scene = 0; scene < 3; scene++) {
                due(x, CUT, "stateOf", scene);
                due(x, NONE, "dayOf", scene);
            }
            due(x, NONE, "sceneOn", 0);
            due(x, NONE, "sceneOn", 29);
            due(x, 3, "scenes");
            due(x, 0, "cost");
            due(x, NONE, "shoot");
            BacklotPlanner off = new BacklotPlanner();
            off.scene(0, 1);
            off.shoot();
            due(off, 1, "cut", 0);
        });
        sentence("5: IndexOutOfBoundsException if there is no such scene", () -> {
            changesNothing(EMPTY, INDEX, "cut", 0);
            for (int scene : new int[] {-1, 3, 9, 10, LOW, HIGH}) {
                changesNothing(EACH_STATE, INDEX, "cut", scene);
            }
            BacklotPlanner x = new BacklotPlanner();
            scenes(x, 10);
            due(x, INDEX, "cut", 10);
            due(x, 9, "cut", 9);
        });
        sentence("5: IllegalStateException if it is not PLANNED", () -> {
            changesNothing(EACH_STATE, STATE, "cut", 0);
            due(EACH_STATE.get(), 1, "cut", 1);
            changesNothing(EACH_STATE, STATE, "cut", 2);
            changesNothing(OVER, STATE, "cut", 1);
        });
    }

    private static void swap() {
        Supplier<BacklotPlanner> third = after(x -> {
            scenes(x, 6);
            shoot(x, 3);
        });
        sentence("6: one: today to 29", () -> {
            for (int day : new int[] {2, 0, -1, 30, LOW, HIGH}) {
                changesNothing(third, ARGUMENT, "swap", day, 3);
            }
            due(third.get(), 0, "swap", 3, 4);
            due(third.get(), 0, "swap", 29, 4);
            due(EMPTY.get(), 0, "swap", 0, 1);
        });
        sentence("6: other: today to 29", () -> {
            for (int day : new int[] {2, 0, -1, 30, LOW, HIGH}) {
                changesNothing(third, ARGUMENT, "swap", 3, day);
            }
            due(third.get(), 0, "swap", 4, 3);
            due(third.get(), 0, "swap", 4, 29);
            due(EMPTY.get(), 0, "swap", 1, 0);
        });
        sentence("6: when all days are over, none is left to swap", () -> {
            changesNothing(OVER, ARGUMENT, "swap", 29, 29);
            changesNothing(OVER, ARGUMENT, "swap", 30, 30);
            changesNothing(OVER, ARGUMENT, "swap", 0, 1);
            BacklotPlanner last = after(x -> shoot(x, 29)).get();
            last.scene(0, 0);
            due(last, 0, "swap", 29, 29);
            due(last, 29, "dayOf", 0);
        });
        sentence("6: a day with itself, and two without scenes, change nothing", () -> {
            changesNothing(third, 0, "swap", 4, 4);
            changesNothing(third, 0, "swap", 20, 29);
            changesNothing(EMPTY, 0, "swap", 0, 29);
        });
        sentence("6: Returns the cost of the plan then.", () -> {
            BacklotPlanner x = new BacklotPlanner();
            x.scene(0, 0);
            x.scene(1, 0);
            x.scene(0, 1);
            x.permit(0, 1, 1, 1);
            due(x, 24, "cost");
            due(x, 2, "swap", 1, 2);
            due(x, 2, "cost");
            due(x, 22, "swap", 0, 1);
            due(x, 24, "swap", 29, 0);
        });
    }

    public static void main(String[] args) {
        newObject();
        scene();
        plays();
        uses();
        cut();
        swap();
        end();
    }
}
