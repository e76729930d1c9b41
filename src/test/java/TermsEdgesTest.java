import java.util.function.Supplier;

/** A test for each sentence of the document's "Terms" that names a boundary case. */
public final class TermsEdgesTest extends Edges {
    private static void calls() {
        sentence("The object is used for at most 512 calls after it has been made", () -> {
            BacklotPlanner x = new BacklotPlanner();
            scenes(x, 3);
            shoot(x, 3);
            for (int call = 6; call < 510; call++) {
                x.away(call % 5, call % 30, call % 2 == 0);
            }
            due(x, 3, "today");
            due(x, 3, "scenes");
        });
        sentence("A call that throws an exception changes nothing", () -> {
            Supplier<BacklotPlanner> busy = after(TermsEdgesTest::fill);
            changesNothing(busy, ARGUMENT, "scene", 4, 0);
            changesNothing(busy, STATE, "plays", 0, 3, 7);
            changesNothing(busy, STATE, "uses", 3, 1, 0, 0);
            changesNothing(busy, STATE, "cut", 0);
            changesNothing(busy, ARGUMENT, "swap", 1, 30);
            changesNothing(busy, ARGUMENT, "permit", 0, 3, 2, 1);
            changesNothing(busy, STATE, "revoke", 1);
            changesNothing(busy, ARGUMENT, "away", 0, 30, true);
            changesNothing(busy, INDEX, "buy", 5);
            changesNothing(busy, STATE, "mishap", 0, 0);
            changesNothing(busy, STATE, "least");
            changesNothing(busy, INDEX, "stateOf", 8);
            changesNothing(busy, INDEX, "dayOf", -1);
            changesNothing(busy, ARGUMENT, "sceneOn", 30);
            changesNothing(busy, ARGUMENT, "isAllowed", 6, -1);
            changesNothing(busy, INDEX, "ahead", 6, 5);
            changesNothing(busy, ARGUMENT, "copies", 0, 4);
            changesNothing(busy, INDEX, "growth", 5);
            changesNothing(after(x -> {
                fill(x);
                shoot(x, 29);
            }), STATE, "shoot");
        });
    }

    /** Eight scenes of all states, permits, copies and absences, on the day 1. */
    private static void fill(BacklotPlanner x) {
        scenes(x, 2);
        x.scene(1, 3);
        x.scene(2, 0);
        x.scene(3, 9);
        scenes(x, 3);
        x.plays(0, 0, 0);
        x.plays(2, 1, 4);
        x.plays(3, 4, ANY);
        x.uses(0, 1, 0, 1);
        x.uses(2, 1, 2, 3);
        x.permit(1, 1, 5, 3);
        x.permit(3, 0, 29, 9);
        x.revoke(1);
        x.away(4, 3, true);
        x.buy(2);
        x.mishap(2, 0);
        x.shoot();
        x.cut(7);
    }

    private static void numbers() {
        sentence("Days are 0 to 29, and 30 when all are over; today is the day 0 at first.", () -> {
            BacklotPlanner x = new BacklotPlanner();
            due(x, 0, "today");
            shoot(x, 29);
            due(x, 29, "today");
            shoot(x, 1);
            due(x, 30, "today");
            due(x, STATE, "shoot");
            due(x, 30, "today");
            due(x, NONE, "sceneOn", 0);
            due(x, NONE, "sceneOn", 29);
            due(x, ARGUMENT, "sceneOn", 30);
        });
        sentence("There are the sets 0 to 3, the props 0 to 4 and the actors 0 to 4.", () -> {
            BacklotPlanner x = new BacklotPlanner();
            due(x, 0, "scene", 0, 0);
            due(x, 1, "scene", 3, 0);
            due(x, ARGUMENT, "scene", 4, 0);
            due(x, ARGUMENT, "scene", -1, 0);
            due(x, 0, "copies", 0, 0);
            due(x, 0, "copies", 4, 0);
            due(x, INDEX, "copies", 5, 0);
            due(x, INDEX, "copies", -1, 0);
            due(x, 0, "growth", 0);
            due(x, 0, "growth", 4);
            due(x, INDEX, "growth", 5);
            due(x, INDEX, "growth", -1);
        });
        sentence("Scenes are numbered from 0 in story order; there can be 10.", () -> {
            BacklotPlanner x = new BacklotPlanner();
            for (int number = 0; number < 10; number++) {
                due(x, number, "scene", number % 4, number);
            }
            due(x, STATE, "scene", 0, 0);
            due(x, 10, "scenes");
            due(x, 9, "dayOf", 9);
            due(x, INDEX, "dayOf", 10);
        });
        sentence("On a day at most one scene is planned.", () -> {
            BacklotPlanner x = new BacklotPlanner();
            scenes(x, 10);
            onlyOn(x, 0, 0);
            x.swap(3, 29);
            x.swap(9, 10);
            x.shoot();
            boolean[] isTaken = new boolean[30];
            for (int scene = 0; scene < 10; scene++) {
                int day = x.dayOf(scene);
                due(x, scene, "sceneOn", day);
                isTaken[day] = true;
            }
            for (int day = 0; day < 30; day++) {
                if (!isTaken[day]) {
                    due(x, NONE, "sceneOn", day);
                }
            }
            due(x, 3, "dayOf", 0);
        });
    }

    private static void props() {
        sentence("A copy of a prop has a state, 0 (new) to 3 (broken).", () -> {
            BacklotPlanner x = new BacklotPlanner();
            x.buy(0);
            due(x, 1, "copies", 0, 0);
            x.mishap(0, 0);
            due(x, 1, "copies", 0, 3);
            due(x, ARGUMENT, "copies", 0, 4);
            due(x, ARGUMENT, "copies", 0, -1);
        });
        sentence("A scene uses a prop from a state to the same or a greater one.", () -> {
            BacklotPlanner x = new BacklotPlanner();
            scenes(x, 1);
            for (int from = 0; from < 4; from++) {
                for (int to = 0; to < 4; to++) {
                    due(x, to < from ? ARGUMENT : (Object) 1, "uses", 0, 0, from, to);
                }
            }
        });
        sentence("of two scenes that use a prop, none of them CUT, the later one uses it from a state that is not less"
                + " than the one to which the earlier one uses it", () -> {
            for (int reached = 0; reached < 4; reached++) {
                for (int from = 0; from < 4; from++) {
                    BacklotPlanner x = new BacklotPlanner();
                    scenes(x, 2);
                    x.uses(0, 0, 0, reached);
                    due(x, from < reached ? STATE : (Object) 1, "uses", 1, 0, from, 3);
                    BacklotPlanner y = new BacklotPlanner();
                    scenes(y, 2);
                    y.uses(1, 0, from, 3);
                    due(y, from < reached ? STATE : (Object) 1, "uses", 0, 0, 0, reached);
                    y.cut(1);
                    due(y, 1, "uses", 0, 0, 0, reached);
                }
            }
        });
        sentence("if there is a copy in the state from which it uses it, that is taken", () -> {
            servesOf(stocked(0, 0, 0, 1), 0, 0, 2, 1, 1);
            servesOf(stocked(0, 0, 1, 1), 0, 1, 1, 1, 1);
            servesOf(stocked(0, 3, 2, 3), 0, 1, 1, 0, 2);
            servesOf(stocked(0, 3, 3, 3), 0, 1, 1, 1, 1);
        });
        sentence("otherwise, of the copies in lesser states, one in the greatest such state is aged to it,"
                + " which costs 1 for each step", () -> {
            servesOf(stocked(1, 0, 1, 1), 1, 0, 1, 1, 1);
            servesOf(stocked(3, 3, 3, 3), 1, 1, 1, 0, 1);
            BacklotPlanner two = stocked(3, 3, 3, 3);
            two.mishap(0, 2);
            two.clear();
            servesOf(two, 2, 1, 0, 0, 1);
            BacklotPlanner three = stocked(3, 3, 3, 3);
            three.mishap(0, 2);
            three.mishap(0, 1);
            three.clear();
            servesOf(three, 3, 0, 0, 0, 1);
        });
        sentence("otherwise a new copy is bought, which costs 5, and aged likewise", () -> {
            for (int from = 0; from < 4; from++) {
                BacklotPlanner x = new BacklotPlanner();
                scenes(x, 1);
                x.uses(0, 4, from, from);
                due(x, 5 + from, "cost");
                x.shoot();
                due(x, 5 + from, "spent");
                due(x, 1, "copies", 4, from);
            }
            servesOf(stocked(0, 3, 2, 2), 0, 1, 1, 1, 1);
            BacklotPlanner greater = stocked(1, 0, 0, 0);
            greater.mishap(0, 0);
            servesOf(greater, 5, 1, 0, 1, 2);
            BacklotPlanner all = stocked(1, 0, 1, 1);
            all.mishap(0, 0);
            servesOf(all, 6, 0, 1, 1, 2);
        });
        sentence("That copy is in the state to which the scene uses it then.", () -> {
            for (int to = 0; to < 4; to++) {
                BacklotPlanner x = new BacklotPlanner();
                x.buy(3);
                scenes(x, 1);
                x.uses(0, 3, 0, to);
                x.shoot();
                for (int state = 0; state < 4; state++) {
                    due(x, state == to ? 1 : 0, "copies", 3, state);
                }
                due(x, 5, "spent");
            }
        });
    }

    /** A copy of the prop 0 in each state but the one without, and then a scene, 0 or 3, that uses it. */
    private static BacklotPlanner stocked(int without, int scene, int from, int to) {
        BacklotPlanner x = new BacklotPlanner();
        scenes(x, 4);
        x.uses(1, 0, 1, 1);
        x.uses(2, 0, 2, 2);
        x.swap(0, 2);
        shoot(x, 2);
        x.buy(0);
        x.buy(0);
        x.mishap(0, 0);
        if (without == 3) {
            x.clear();
        } else if (without == 1) {
            x.mishap(0, 1);
            x.clear();
            x.buy(0);
            x.mishap(0, 0);
        }
        x.swap(2, scene == 0 ? 2 : 3);
        x.uses(scene, 0, from, to);
        return x;
    }

    /** The scene of today is shot for this, and then there are so many copies of the prop 0 by states. */
    private static void servesOf(BacklotPlanner x, int price, int... copies) {
        int before = x.spent();
        due(x, price, "cost");
        x.shoot();
        due(x, before + price, "spent");
        for (int state = 0; state < copies.length; state++) {
            due(x, copies[state], "copies", 0, state);
        }
    }

    private static void beards() {
        sentence("An actor has a growth of beard, 0 at first, which becomes 1 more with each day, up to 20.", () -> {
            BacklotPlanner x = new BacklotPlanner();
            for (int day = 0; day < 30; day++) {
                for (int actor = 0; actor < 5; actor++) {
                    due(x, Math.min(day, 20), "growth", actor);
                }
                x.shoot();
            }
            due(x, 20, "growth", 0);
        });
        sentence("A scene needs of an actor any beard, none, or a beard of at least some growth.", () -> {
            for (int grown : new int[] {0, 1, 19, 20, 25}) {
                for (int beard = ANY; beard <= 20; beard++) {
                    BacklotPlanner x = new BacklotPlanner();
                    shoot(x, grown);
                    scenes(x, 1);
                    x.plays(0, 3, beard);
                    due(x, beard > Math.min(grown, 20) ? 3 : 0, "cost");
                }
            }
        });
        sentence("if it needs none, the actor is shaved: the growth is 0", () -> {
            BacklotPlanner x = new BacklotPlanner();
            shoot(x, 25);
            scenes(x, 2);
            x.plays(0, 3, 0);
            due(x, 0, "cost");
            x.shoot();
            due(x, 1, "growth", 3);
            due(x, 20, "growth", 2);
            x.plays(1, 3, 1);
            due(x, 0, "cost");
            x.plays(1, 3, 2);
            due(x, 3, "cost");
            BacklotPlanner any = new BacklotPlanner();
            shoot(any, 4);
            scenes(any, 1);
            any.plays(0, 3, ANY);
            any.shoot();
            due(any, 5, "growth", 3);
        });
        sentence("if it needs more growth than there is, a false beard is glued on, which costs 3, and the growth stays",
                () -> {
            BacklotPlanner x = new BacklotPlanner();
            shoot(x, 4);
            scenes(x, 3);
            x.plays(0, 0, 4);
            x.plays(1, 0, 6);
            x.plays(2, 0, 20);
            due(x, 6, "cost");
            x.shoot();
            due(x, 0, "spent");
            due(x, 5, "growth", 0);
            x.shoot();
            due(x, 3, "spent");
            due(x, 6, "growth", 0);
            x.shoot();
            due(x, 6, "spent");
            due(x, 7, "growth", 0);
        });
    }

    private static void permission() {
        sentence("A permit is for a set, from a day to a day, for some flames.", () -> {
            BacklotPlanner x = new BacklotPlanner();
            x.scene(2, 5);
            x.permit(2, 7, 9, 5);
            x.permit(2, 11, 11, 4);
            x.permit(2, 13, 13, 6);
            x.permit(1, 15, 16, 9);
            x.permit(3, 15, 16, 9);
            x.permit(2, 29, 29, 9);
            x.permit(2, 0, 0, 9);
            for (int day = 0; day < 30; day++) {
                due(x, 7 <= day && day <= 9 || day == 13 || day == 29 || day == 0, "isAllowed", 0, day);
            }
        });
        sentence("A scene is allowed on a day if it needs no flames, or some permit that was not revoked is for its set"
                + " and that day and as many flames or more", () -> {
            BacklotPlanner x = new BacklotPlanner();
            for (int flames = 0; flames < 10; flames++) {
                x.scene(1, flames);
            }
            due(x, 9, "refused");
            for (int most = 1; most < 10; most++) {
                x.permit(1, most, most, most);
                for (int flames = 0; flames < 10; flames++) {
                    due(x, flames <= most, "isAllowed", flames, most);
                }
            }
            x.revoke(8);
            due(x, false, "isAllowed", 9, 9);
            due(x, false, "isAllowed", 1, 9);
            due(x, true, "isAllowed", 0, 9);
        });
        sentence("and if none of its actors is away on that day", () -> {
            BacklotPlanner x = new BacklotPlanner();
            x.scene(0, 1);
            x.permit(0, 0, 29, 1);
            for (int actor = 0; actor < 5; actor++) {
                x.away(actor, actor * 7, true);
                due(x, true, "isAllowed", 0, actor * 7);
                x.plays(0, actor, ANY);
                due(x, false, "isAllowed", 0, actor * 7);
                due(x, true, "isAllowed", 0, actor * 7 + 1);
            }
            x.away(2, 14, false);
            due(x, true, "isAllowed", 0, 14);
            x.revoke(0);
            due(x, false, "isAllowed", 0, 14);
        });
        sentence("A PLANNED scene that is not allowed on its day is refused.", () -> {
            BacklotPlanner x = new BacklotPlanner();
            x.scene(0, 1);
            x.scene(0, 1);
            x.permit(0, 1, 1, 1);
            due(x, 1, "refused");
            x.cut(0);
            due(x, 0, "refused");
            x.away(0, 1, true);
            x.plays(1, 0, ANY);
            due(x, 1, "refused");
            x.away(0, 1, false);
            shoot(x, 2);
            x.away(0, 1, true);
            due(x, 0, "refused");
        });
    }

    private static void aDay() {
        sentence("if its set is another one than that of the scene that was shot last (if there is one), that costs 2",
                () -> {
            BacklotPlanner x = new BacklotPlanner();
            x.scene(3, 0);
            x.scene(3, 0);
            x.scene(2, 0);
            due(x, 2, "cost");
            x.shoot();
            due(x, 0, "spent");
            x.shoot();
            due(x, 0, "spent");
            x.shoot();
            due(x, 2, "spent");
            BacklotPlanner gap = new BacklotPlanner();
            gap.scene(0, 0);
            gap.scene(1, 9);
            gap.scene(0, 0);
            gap.swap(2, 28);
            shoot(gap, 28);
            gap.cut(1);
            due(gap, 0, "cost");
            gap.shoot();
            due(gap, 0, "spent");
        });
        sentence("then it is served with its actors, and with its props, by rising numbers of each", () -> {
            BacklotPlanner x = new BacklotPlanner();
            scenes(x, 1);
            for (int i = 0; i < 5; i++) {
                x.plays(0, i, 0);
                x.uses(0, i, 0, i % 4);
            }
            due(x, 25, "cost");
            x.shoot();
            due(x, 25, "spent");
            for (int i = 0; i < 5; i++) {
                due(x, 1, "growth", i);
                due(x, 1, "copies", i, i % 4);
            }
        });
        sentence("it is put off: it is planned for the first later day without a scene", () -> {
            for (int taken = 0; taken < 9; taken++) {
                BacklotPlanner x = new BacklotPlanner();
                x.scene(0, 9);
                scenes(x, taken);
                x.scene(0, 0);
                x.swap(taken + 1, taken + 2);
                due(x, NONE, "shoot");
                due(x, taken + 1, "dayOf", 0);
                due(x, PLANNED, "stateOf", 0);
                due(x, 0, "spent");
            }
            BacklotPlanner last = new BacklotPlanner();
            shoot(last, 28);
            last.scene(0, 9);
            due(last, NONE, "shoot");
            due(last, 29, "dayOf", 0);
            due(last, PLANNED, "stateOf", 0);
        });
        sentence("or CUT if there is none", () -> {
            BacklotPlanner last = new BacklotPlanner();
            shoot(last, 29);
            last.scene(0, 9);
            due(last, NONE, "shoot");
            due(last, CUT, "stateOf", 0);
            due(last, NONE, "dayOf", 0);
            due(last, 0, "spent");
            BacklotPlanner full = new BacklotPlanner();
            shoot(full, 20);
            full.scene(0, 9);
            scenes(full, 9);
            due(full, 29, "dayOf", 9);
            due(full, NONE, "shoot");
            due(full, CUT, "stateOf", 0);
            due(full, 21, "dayOf", 1);
            BacklotPlanner room = new BacklotPlanner();
            shoot(room, 20);
            room.scene(0, 9);
            scenes(room, 9);
            room.cut(9);
            due(room, NONE, "shoot");
            due(room, PLANNED, "stateOf", 0);
            due(room, 29, "dayOf", 0);
        });
        sentence("Then all beards grow, and the next day begins.", () -> {
            BacklotPlanner x = new BacklotPlanner();
            x.scene(0, 9);
            x.scene(0, 0);
            x.plays(1, 2, 0);
            for (int day = 1; day <= 30; day++) {
                x.shoot();
                due(x, day, "today");
                due(x, Math.min(day, 20), "growth", 4);
                due(x, day < 2 ? day : Math.min(day - 1, 20), "growth", 2);
            }
            due(x, CUT, "stateOf", 0);
        });
    }

    private static void costOfThePlan() {
        sentence("The cost of the plan is what all costs would be from today on, up to the day 29", () -> {
            BacklotPlanner x = new BacklotPlanner();
            due(x, 0, "cost");
            x.scene(0, 0);
            x.scene(0, 0);
            x.uses(0, 0, 0, 0);
            x.uses(1, 1, 0, 0);
            x.swap(1, 29);
            due(x, 10, "cost");
            x.shoot();
            due(x, 5, "cost");
            shoot(x, 28);
            due(x, 5, "cost");
            x.shoot();
            due(x, 0, "cost");
            due(x, 10, "spent");
        });
        sentence("refused ones too, each of which costs 20 besides", () -> {
            BacklotPlanner x = new BacklotPlanner();
            x.scene(0, 1);
            due(x, 20, "cost");
            x.scene(1, 1);
            due(x, 20 + 20 + 2, "cost");
            x.uses(1, 0, 1, 1);
            x.plays(1, 0, 2);
            due(x, 20 + 20 + 2 + 3 + 6, "cost");
            x.away(0, 1, true);
            due(x, 20 + 20 + 2 + 3 + 6, "cost");
            x.permit(1, 1, 1, 1);
            due(x, 20 + 20 + 2 + 3 + 6, "cost");
            x.away(0, 1, false);
            due(x, 20 + 2 + 3 + 6, "cost");
        });
        sentence("with copies, beards and the set as they are now", () -> {
            BacklotPlanner x = new BacklotPlanner();
            x.scene(0, 0);
            x.scene(1, 0);
            x.uses(1, 0, 2, 2);
            x.plays(1, 4, 2);
            due(x, 2 + 7 + 3, "cost");
            x.buy(0);
            due(x, 2 + 2 + 3, "cost");
            x.shoot();
            due(x, 2 + 2 + 3, "cost");
            x.swap(1, 2);
            due(x, 2 + 2, "cost");
            x.mishap(0, 0);
            due(x, 2 + 7, "cost");
        });
        sentence("To swap two days is to plan for each of them what is planned for the other one;"
                + " a day may be without a scene.", () -> {
            BacklotPlanner x = new BacklotPlanner();
            scenes(x, 2);
            due(x, 0, "swap", 0, 1);
            due(x, 1, "sceneOn", 0);
            due(x, 0, "sceneOn", 1);
            due(x, 0, "swap", 0, 29);
            due(x, NONE, "sceneOn", 0);
            due(x, 1, "sceneOn", 29);
            due(x, 0, "swap", 0, 29);
            due(x, 1, "sceneOn", 0);
            due(x, NONE, "sceneOn", 29);
            due(x, 0, "swap", 5, 6);
            due(x, NONE, "sceneOn", 5);
            due(x, NONE, "sceneOn", 6);
        });
    }

    private static void constants() {
        sentence("`NONE = -1`: None; `ANY = -1`: Any beard; `PLANNED = 0, SHOT = 1, CUT = 2`: States of scenes.", () -> {
            BacklotPlanner x = new BacklotPlanner();
            scenes(x, 3);
            x.shoot();
            x.cut(1);
            due(x, 1, "stateOf", 0);
            due(x, 2, "stateOf", 1);
            due(x, 0, "stateOf", 2);
            due(x, -1, "dayOf", 1);
            due(x, -1, "shoot");
            due(x, 1, "plays", 2, 0, -1);
            due(x, 0, "cost");
        });
    }

    public static void main(String[] args) {
        calls();
        numbers();
        props();
        beards();
        permission();
        aDay();
        costOfThePlan();
        constants();
        end();
    }
}
