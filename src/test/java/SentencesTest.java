import java.util.function.Supplier;

/** A test for each sentence of the document that names no boundary case and has no test by its words elsewhere. */
public final class SentencesTest extends Edges {
    private static void terms() {
        sentence("In story order each prop ages only forwards.", () -> {
            BacklotPlanner x = new BacklotPlanner();
            scenes(x, 10);
            for (int scene : new int[] {4, 9, 0, 6, 2, 7, 1, 8, 3, 5}) {
                due(x, 1, "uses", scene, 2, scene / 3, scene / 3);
            }
            for (int scene = 0; scene < 10; scene++) {
                int before = Math.max(0, scene - 1) / 3;
                int behind = Math.min(9, scene + 1) / 3;
                due(x, before, "ahead", scene, 2);
                for (int from = 0; from < 4; from++) {
                    for (int to = from; to < 4; to++) {
                        due(x, before <= from && to <= behind ? 1 : (Object) STATE, "uses", scene, 2, from, to);
                    }
                }
                due(x, 1, "uses", scene, 2, scene / 3, scene / 3);
            }
        });
        sentence("if several exceptions apply, the one that its @throws lines name first is thrown", () -> {
            Supplier<BacklotPlanner> full = after(x -> {
                scenes(x, 10);
                for (int permit = 0; permit < 20; permit++) {
                    x.permit(0, 0, 29, 1);
                }
                x.shoot();
            });
            changesNothing(full, ARGUMENT, "scene", 4, 10);
            changesNothing(full, INDEX, "plays", 10, 0, 21);
            changesNothing(full, INDEX, "plays", 0, 5, 21);
            changesNothing(full, ARGUMENT, "plays", 0, 0, 21);
            changesNothing(full, INDEX, "uses", -1, 0, 2, 1);
            changesNothing(full, INDEX, "uses", 0, -1, 2, 1);
            changesNothing(full, ARGUMENT, "uses", 0, 0, 2, 1);
            changesNothing(full, ARGUMENT, "permit", 0, 30, 30, 1);
            changesNothing(full, INDEX, "away", 5, 30, true);
            changesNothing(full, INDEX, "mishap", 5, 3);
            changesNothing(full, INDEX, "mishap", -1, 0);
            changesNothing(full, ARGUMENT, "mishap", 0, 3);
            changesNothing(full, INDEX, "isAllowed", 10, 30);
            changesNothing(full, INDEX, "copies", 5, 4);
        });
        sentence("A scene is at a set, needs some flames, has actors, each with a beard, and uses props.", () -> {
            BacklotPlanner x = new BacklotPlanner();
            x.scene(0, 0);
            x.scene(1, 2);
            x.permit(1, 1, 1, 2);
            due(x, 2, "cost");
            due(x, 1, "plays", 1, 0, 2);
            due(x, 2 + 3, "cost");
            due(x, 2, "plays", 1, 3, 7);
            due(x, 2 + 3 + 3, "cost");
            due(x, 1, "uses", 1, 2, 0, 1);
            due(x, 2 + 3 + 3 + 5, "cost");
            due(x, 2, "uses", 1, 4, 2, 2);
            due(x, 2 + 3 + 3 + 5 + 7, "cost");
            due(x, 1, "revoke", 0);
            due(x, 2 + 3 + 3 + 5 + 7 + 20, "cost");
        });
        sentence("It is PLANNED for a day, SHOT, or CUT.", () -> {
            BacklotPlanner x = new BacklotPlanner();
            scenes(x, 3);
            for (int scene = 0; scene < 3; scene++) {
                due(x, PLANNED, "stateOf", scene);
                due(x, scene, "dayOf", scene);
                due(x, scene, "sceneOn", scene);
            }
            x.shoot();
            x.cut(2);
            due(x, SHOT, "stateOf", 0);
            due(x, PLANNED, "stateOf", 1);
            due(x, CUT, "stateOf", 2);
            for (int day = 0; day < 30; day++) {
                due(x, day == 1 ? 1 : NONE, "sceneOn", day);
            }
        });
        sentence("When today ends: if a scene is planned for it, and is allowed, it is SHOT", () -> {
            for (int flames = 0; flames < 3; flames++) {
                for (int most = 1; most < 3; most++) {
                    for (int awayOn = 0; awayOn < 2; awayOn++) {
                        BacklotPlanner x = new BacklotPlanner();
                        x.scene(2, flames);
                        x.permit(2, 0, 0, most);
                        x.plays(0, 1, ANY);
                        x.away(1, awayOn, true);
                        boolean isAllowed = flames <= most && awayOn != 0;
                        due(x, isAllowed, "isAllowed", 0, 0);
                        due(x, isAllowed ? 0 : NONE, "shoot");
                        due(x, isAllowed ? SHOT : PLANNED, "stateOf", 0);
                    }
                }
            }
        });
        sentence("what all costs would be .. if all PLANNED scenes were shot on their days", () -> {
            BacklotPlanner x = new BacklotPlanner();
            for (int scene = 0; scene < 10; scene++) {
                x.scene(scene * 3 % 4, 0);
                x.plays(scene, scene % 5, scene % 3 == 0 ? 0 : scene);
                x.plays(scene, (scene + 2) % 5, scene % 2 == 0 ? ANY : 4);
                x.uses(scene, scene % 2, scene / 3, (scene + 1) / 3);
                x.uses(scene, 2 + scene % 3, 0, 0);
            }
            x.swap(3, 17);
            x.swap(6, 2);
            x.swap(8, 29);
            int due = x.cost();
            is("the plan costs something", due > 0, true);
            for (int day = 0; day < 30; day++) {
                x.shoot();
                due(x, due - x.spent(), "cost");
            }
            due(x, due, "spent");
        });
    }

    private static void promises() {
        sentence("2: Adds a scene at the end of the story", () -> {
            BacklotPlanner x = new BacklotPlanner();
            scenes(x, 2);
            x.uses(0, 1, 0, 1);
            x.uses(1, 1, 1, 2);
            x.swap(1, 9);
            due(x, 2, "scene", 3, 5);
            due(x, 3, "scenes");
            due(x, 2, "ahead", 2, 1);
            due(x, PLANNED, "stateOf", 2);
            due(x, STATE, "uses", 2, 1, 1, 2);
            due(x, 1, "plays", 2, 0, ANY);
            due(x, 1, "uses", 2, 1, 2, 2);
        });
        sentence("3: Lets an actor play in a scene", () -> {
            BacklotPlanner x = new BacklotPlanner();
            scenes(x, 2);
            x.away(3, 0, true);
            due(x, true, "isAllowed", 0, 0);
            due(x, 1, "plays", 0, 3, ANY);
            due(x, false, "isAllowed", 0, 0);
            due(x, true, "isAllowed", 1, 0);
        });
        sentence("4: Lets a scene use a prop", () -> {
            BacklotPlanner x = new BacklotPlanner();
            scenes(x, 2);
            due(x, 1, "uses", 0, 3, 0, 2);
            due(x, 5, "cost");
            due(x, 2, "ahead", 1, 3);
            x.shoot();
            due(x, 1, "copies", 3, 2);
            due(x, 0, "cost");
        });
        sentence("5: Cuts a scene.", () -> {
            BacklotPlanner x = new BacklotPlanner();
            scenes(x, 3);
            x.uses(1, 0, 1, 3);
            due(x, 6, "cost");
            due(x, 1, "cut", 1);
            due(x, CUT, "stateOf", 1);
            due(x, 0, "cost");
            due(x, 0, "ahead", 2, 0);
            due(x, 0, "shoot");
            due(x, NONE, "shoot");
            due(x, 2, "shoot");
        });
        sentence("6: Swaps two days.", () -> {
            BacklotPlanner x = new BacklotPlanner();
            scenes(x, 4);
            due(x, 0, "swap", 1, 3);
            due(x, 0, "swap", 0, 12);
            int[] days = {12, 3, 2, 1};
            for (int scene = 0; scene < 4; scene++) {
                due(x, days[scene], "dayOf", scene);
                due(x, scene, "sceneOn", days[scene]);
            }
            due(x, NONE, "sceneOn", 0);
            due(x, 0, "today");
        });
        sentence("7: Grants a permit.", () -> {
            BacklotPlanner x = new BacklotPlanner();
            x.scene(3, 2);
            due(x, 1, "refused");
            due(x, 0, "permit", 3, 0, 0, 2);
            due(x, 0, "refused");
            due(x, 0, "cost");
            due(x, 0, "spent");
            due(x, 0, "shoot");
        });
        sentence("8: Revokes a permit.", () -> {
            BacklotPlanner x = new BacklotPlanner();
            x.scene(3, 2);
            x.permit(3, 0, 5, 2);
            x.permit(3, 4, 9, 2);
            due(x, 1, "revoke", 0);
            for (int day = 0; day < 30; day++) {
                due(x, 4 <= day && day <= 9, "isAllowed", 0, day);
            }
            due(x, NONE, "shoot");
        });
        sentence("12: Breaks a copy of a prop by mishap.", () -> {
            BacklotPlanner x = new BacklotPlanner();
            x.buy(2);
            x.buy(2);
            due(x, 1, "mishap", 2, 0);
            due(x, 1, "copies", 2, 0);
            due(x, 1, "copies", 2, 3);
            due(x, 10, "spent");
            due(x, 3, "buy", 2);
        });
        sentence("13: Lets today end.", () -> {
            BacklotPlanner x = new BacklotPlanner();
            scenes(x, 2);
            x.uses(0, 0, 0, 1);
            x.plays(0, 4, 3);
            due(x, 0, "shoot");
            due(x, 1, "today");
            due(x, 5 + 3, "spent");
            due(x, 1, "growth", 4);
            due(x, 1, "copies", 0, 1);
            due(x, 1, "sceneOn", 1);
        });
        sentence("14: Mends the plan", () -> {
            BacklotPlanner x = new BacklotPlanner();
            x.scene(0, 1);
            x.scene(1, 1);
            x.permit(0, 1, 1, 1);
            x.permit(1, 6, 6, 1);
            due(x, 2, "refused");
            due(x, 1, "mend");
            due(x, 1, "refused");
            due(x, 6, "dayOf", 1);
            due(x, 1, "mend");
            due(x, 0, "refused");
            due(x, 1, "dayOf", 0);
            due(x, 0, "mend");
        });
        sentence("15: Betters the plan", () -> {
            BacklotPlanner x = new BacklotPlanner();
            x.scene(0, 0);
            x.scene(1, 0);
            x.scene(0, 0);
            x.scene(1, 3);
            x.permit(1, 3, 3, 3);
            due(x, 6, "cost");
            due(x, 1, "better");
            due(x, 2, "cost");
            due(x, 0, "refused");
            due(x, 0, "better");
        });
    }

    public static void main(String[] args) {
        terms();
        promises();
        end();
    }
}
