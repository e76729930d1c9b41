import java.util.function.Supplier;

/** A test for each sentence of the promises 13 to 16 that names a boundary case. */
public final class DayEdgesTest extends Edges {
    private static final Supplier<BacklotPlanner> OVER = after(x -> {
        x.scene(0, 1);
        scenes(x, 2);
        shoot(x, 30);
    });

    /** Where the scenes are, from the day 0 on; NONE for those that are CUT. */
    private static void days(BacklotPlanner x, int... days) {
        for (int scene = 0; scene < days.length; scene++) {
            due(x, days[scene], "dayOf", scene);
        }
    }

    private static void shooting() {
        sentence("13: Returns the scene that is SHOT", () -> {
            BacklotPlanner x = new BacklotPlanner();
            scenes(x, 10);
            x.swap(0, 9);
            x.swap(9, 29);
            due(x, 9, "shoot");
            due(x, SHOT, "stateOf", 9);
            due(x, 0, "dayOf", 9);
            due(x, NONE, "sceneOn", 0);
            for (int day = 1; day < 9; day++) {
                due(x, day, "shoot");
            }
            shoot(x, 20);
            due(x, 0, "shoot");
            due(x, 29, "dayOf", 0);
            due(x, SHOT, "stateOf", 0);
        });
        sentence("13: NONE if none is.", () -> {
            due(EMPTY.get(), NONE, "shoot");
            BacklotPlanner refused = new BacklotPlanner();
            refused.scene(0, 1);
            refused.permit(0, 1, 1, 1);
            due(refused, NONE, "shoot");
            due(refused, 0, "shoot");
            BacklotPlanner gone = new BacklotPlanner();
            gone.scene(0, 0);
            gone.cut(0);
            due(gone, NONE, "shoot");
            due(gone, CUT, "stateOf", 0);
            BacklotPlanner last = after(x -> shoot(x, 29)).get();
            due(last, NONE, "shoot");
            due(last, 30, "today");
        });
        sentence("13: IllegalStateException if all days are over", () -> {
            Supplier<BacklotPlanner> almost = after(x -> {
                shoot(x, 29);
                scenes(x, 1);
            });
            due(almost.get(), 0, "shoot");
            changesNothing(OVER, STATE, "shoot");
            changesNothing(after(x -> shoot(x, 30)), STATE, "shoot");
        });
    }

    private static void mend() {
        sentence("14: the days from today on are gone through by rising numbers", () -> {
            BacklotPlanner x = new BacklotPlanner();
            x.scene(0, 1);
            x.scene(0, 1);
            x.permit(0, 5, 5, 1);
            due(x, 1, "mend");
            days(x, 5, 1);
            BacklotPlanner late = new BacklotPlanner();
            late.scene(0, 1);
            late.permit(0, 0, 3, 1);
            late.swap(0, 29);
            shoot(late, 4);
            due(late, 0, "mend");
            days(late, 29);
        });
        sentence("14: for each one whose scene is refused, and for no other one", () -> {
            BacklotPlanner x = new BacklotPlanner();
            x.scene(0, 0);
            x.scene(1, 0);
            x.scene(0, 0);
            due(x, 4, "cost");
            changesNothing(after(y -> {
                y.scene(0, 0);
                y.scene(1, 0);
                y.scene(0, 0);
            }), 0, "mend");
            x.plays(2, 0, ANY);
            x.away(0, 2, true);
            due(x, 1, "mend");
            days(x, 0, 2, 1);
            due(x, 2, "cost");
        });
        sentence("14: the last day is one of them", () -> {
            BacklotPlanner x = new BacklotPlanner();
            x.scene(0, 1);
            x.permit(0, 12, 13, 1);
            x.swap(0, 29);
            due(x, 1, "mend");
            days(x, 12);
        });
        sentence("14: of all swaps of it with another day from today on", () -> {
            BacklotPlanner first = after(x -> {
                shoot(x, 10);
                x.scene(0, 1);
                x.permit(0, 0, 10, 1);
                x.swap(10, 17);
            }).get();
            due(first, 1, "mend");
            days(first, 10);
            BacklotPlanner over = after(x -> {
                shoot(x, 10);
                x.scene(0, 1);
                x.permit(0, 0, 9, 1);
            }).get();
            due(over, 0, "mend");
            days(over, 10);
            BacklotPlanner last = after(x -> {
                x.scene(0, 1);
                x.permit(0, 29, 29, 1);
            }).get();
            due(last, 1, "mend");
            days(last, 29);
        });
        sentence("14: behind which the scenes of both are allowed", () -> {
            Supplier<BacklotPlanner> both = after(x -> {
                x.scene(0, 1);
                x.scene(1, 1);
                x.permit(0, 1, 1, 1);
                x.permit(1, 1, 1, 1);
            });
            changesNothing(both, 0, "mend");
            BacklotPlanner then = both.get();
            then.permit(1, 0, 0, 1);
            due(then, 1, "mend");
            days(then, 1, 0);
            BacklotPlanner two = new BacklotPlanner();
            two.scene(0, 1);
            two.scene(1, 1);
            two.permit(0, 1, 1, 1);
            two.permit(1, 0, 0, 1);
            due(two, 2, "refused");
            due(two, 1, "mend");
            days(two, 1, 0);
            due(two, 0, "refused");
            BacklotPlanner alone = both.get();
            alone.cut(1);
            due(alone, 1, "mend");
            days(alone, 1);
        });
        sentence("14: the one is made with which the cost of the plan is least", () -> {
            BacklotPlanner x = new BacklotPlanner();
            x.scene(0, 0);
            x.scene(0, 0);
            x.scene(1, 1);
            x.permit(1, 0, 1, 1);
            x.permit(1, 7, 8, 1);
            due(x, 22, "cost");
            due(x, 1, "mend");
            days(x, 2, 1, 0);
            due(x, 2, "cost");
            BacklotPlanner beard = new BacklotPlanner();
            beard.scene(0, 1);
            beard.permit(0, 1, 20, 1);
            beard.plays(0, 0, 9);
            due(beard, 1, "mend");
            days(beard, 9);
            BacklotPlanner dear = new BacklotPlanner();
            shoot(dear, 10);
            dear.scene(0, 1);
            scenes(dear, 3);
            for (int actor = 0; actor < 5; actor++) {
                dear.plays(0, actor, 0);
                for (int scene = 1; scene <= 3; scene++) {
                    dear.plays(scene, actor, 12);
                }
            }
            for (int scene = 3; scene >= 1; scene--) {
                dear.swap(10 + scene, 20 + scene);
            }
            dear.swap(10, 29);
            dear.permit(0, 12, 19, 1);
            due(dear, 20, "cost");
            due(dear, 1, "mend");
            days(dear, 12, 21, 22, 23);
            due(dear, 3 * 15, "cost");
        });
        sentence("14: of several that with the lowest day", () -> {
            BacklotPlanner x = new BacklotPlanner();
            x.scene(0, 1);
            x.permit(0, 4, 4, 1);
            x.permit(0, 9, 9, 1);
            due(x, 1, "mend");
            days(x, 4);
            BacklotPlanner ahead = new BacklotPlanner();
            ahead.scene(0, 1);
            ahead.swap(0, 15);
            ahead.permit(0, 4, 9, 1);
            ahead.permit(0, 16, 29, 1);
            due(ahead, 1, "mend");
            days(ahead, 4);
        });
        sentence("14: none, if there is none such", () -> {
            changesNothing(after(x -> x.scene(0, 1)), 0, "mend");
            changesNothing(after(x -> {
                scenes(x, 1);
                onlyOn(x, 0, 0);
            }), 0, "mend");
            changesNothing(after(x -> {
                shoot(x, 29);
                x.scene(0, 1);
                x.permit(0, 0, 28, 9);
            }), 0, "mend");
            BacklotPlanner some = new BacklotPlanner();
            some.scene(0, 9);
            some.scene(0, 1);
            some.permit(0, 8, 8, 1);
            due(some, 1, "mend");
            days(some, 0, 8);
        });
        sentence("14: Returns how many swaps are made.", () -> {
            changesNothing(EMPTY, 0, "mend");
            changesNothing(OVER, 0, "mend");
            BacklotPlanner x = new BacklotPlanner();
            for (int i = 0; i < 10; i++) {
                x.scene(0, 1);
            }
            x.permit(0, 20, 29, 1);
            due(x, 10, "refused");
            due(x, 10, "mend");
            due(x, 0, "refused");
            days(x, 20, 21, 22, 23, 24, 25, 26, 27, 28, 29);
            due(x, 0, "mend");
            BacklotPlanner few = new BacklotPlanner();
            for (int i = 0; i < 10; i++) {
                few.scene(0, 1);
            }
            few.permit(0, 21, 29, 1);
            due(few, 9, "mend");
            due(few, 1, "refused");
            days(few, 21, 22, 23, 24, 25, 26, 27, 28, 29, 9);
        });
    }

    private static void better() {
        sentence("15: as long as some swap of two days from today on makes the cost of the plan less", () -> {
            changesNothing(EMPTY, 0, "better");
            changesNothing(OVER, 0, "better");
            changesNothing(after(x -> scenes(x, 10)), 0, "better");
            changesNothing(after(x -> {
                x.scene(0, 0);
                x.scene(1, 0);
            }), 0, "better");
            BacklotPlanner x = new BacklotPlanner();
            for (int i = 0; i < 10; i++) {
                x.scene(i % 2, 0);
            }
            due(x, 18, "cost");
            x.better();
            due(x, 0, "better");
            int least = x.cost();
            for (int one = 0; one < 30; one++) {
                for (int other = one + 1; other < 11; other++) {
                    is("a swap of " + one + " and " + other + " makes it less", x.swap(one, other) < least, false);
                    due(x, least, "swap", one, other);
                }
            }
        });
        sentence("15: today is one of these days, and so is the day 29; those that are over are not", () -> {
            BacklotPlanner last = new BacklotPlanner();
            last.scene(0, 1);
            last.permit(0, 29, 29, 1);
            due(last, 1, "better");
            days(last, 29);
            BacklotPlanner first = new BacklotPlanner();
            shoot(first, 6);
            first.scene(0, 1);
            first.permit(0, 0, 6, 1);
            first.swap(6, 29);
            due(first, 1, "better");
            days(first, 6);
            changesNothing(after(x -> {
                shoot(x, 6);
                x.scene(0, 1);
                x.permit(0, 0, 5, 1);
            }), 0, "better");
            changesNothing(after(x -> {
                shoot(x, 29);
                x.scene(0, 1);
            }), 0, "better");
            BacklotPlanner two = new BacklotPlanner();
            shoot(two, 28);
            two.scene(0, 0);
            two.scene(0, 1);
            two.permit(0, 28, 28, 1);
            due(two, 1, "better");
            days(two, 29, 28);
        });
        sentence("15: the one is made with which it is least", () -> {
            BacklotPlanner x = new BacklotPlanner();
            x.scene(0, 1);
            x.plays(0, 0, 8);
            x.permit(0, 3, 8, 1);
            due(x, 1, "better");
            days(x, 8);
        });
        sentence("15: of several that with the lowest first day", () -> {
            BacklotPlanner x = new BacklotPlanner();
            for (int i = 0; i < 4; i++) {
                x.scene(i % 2, 0);
            }
            due(x, 6, "cost");
            // the days 0 and 3 save as much as the days 1 and 2 do
            due(x, 1, "better");
            due(x, 2, "cost");
            days(x, 3, 1, 2, 0);
            BacklotPlanner refused = new BacklotPlanner();
            refused.scene(0, 1);
            refused.swap(0, 15);
            refused.permit(0, 12, 14, 1);
            refused.permit(0, 16, 29, 1);
            due(refused, 1, "better");
            days(refused, 12);
        });
        sentence("15: of these that with the lowest second one", () -> {
            BacklotPlanner x = new BacklotPlanner();
            x.scene(0, 1);
            x.permit(0, 11, 29, 1);
            due(x, 1, "better");
            days(x, 11);
        });
        sentence("15: Returns how many swaps are made.", () -> {
            BacklotPlanner x = new BacklotPlanner();
            for (int i = 0; i < 10; i++) {
                x.scene(0, 1);
            }
            x.permit(0, 20, 29, 1);
            due(x, 200, "cost");
            due(x, 10, "better");
            due(x, 0, "cost");
            days(x, 20, 21, 22, 23, 24, 25, 26, 27, 28, 29);
            due(x, 0, "better");
        });
    }

    private static void least() {
        sentence("16: Returns the least cost that the plan could have", () -> {
            changesNothing(EMPTY, 0, "least");
            changesNothing(OVER, 0, "least");
            changesNothing(after(x -> x.scene(0, 1)), 20, "least");
            changesNothing(after(x -> {
                x.scene(0, 0);
                x.scene(1, 0);
                x.scene(0, 0);
                x.scene(1, 0);
                x.scene(0, 0);
            }), 2, "least");
            changesNothing(after(x -> {
                x.scene(0, 1);
                x.scene(0, 0);
                x.swap(1, 29);
                x.permit(0, 29, 29, 1);
            }), 0, "least");
            changesNothing(after(x -> {
                for (int i = 0; i < 5; i++) {
                    x.scene(0, 1);
                }
            }), 100, "least");
        });
        sentence("16: found by trying all orders of its scenes on the days on which scenes are planned now", () -> {
            BacklotPlanner x = new BacklotPlanner();
            x.scene(0, 1);
            x.permit(0, 1, 29, 1);
            due(x, 20, "least");
            scenes(x, 1);
            due(x, 0, "least");
            BacklotPlanner all = new BacklotPlanner();
            for (int scene = 0; scene < 5; scene++) {
                all.scene(0, 5 - scene);
                all.permit(0, 4 - scene, 4 - scene, 5 - scene);
            }
            due(all, 40, "cost");
            due(all, 0, "least");
            due(all, 40, "cost");
            BacklotPlanner set = new BacklotPlanner();
            set.scene(1, 0);
            set.scene(0, 0);
            set.scene(1, 0);
            set.shoot();
            due(set, 4, "cost");
            due(set, 2, "least");
        });
        sentence("16: IllegalStateException if more than 5 scenes are PLANNED", () -> {
            changesNothing(after(x -> scenes(x, 5)), 0, "least");
            Supplier<BacklotPlanner> six = after(x -> scenes(x, 6));
            changesNothing(six, STATE, "least");
            changesNothing(after(x -> scenes(x, 10)), STATE, "least");
            BacklotPlanner one = six.get();
            one.cut(3);
            due(one, 0, "least");
            BacklotPlanner shot = six.get();
            shot.shoot();
            due(shot, 0, "least");
            BacklotPlanner off = six.get();
            off.plays(0, 0, ANY);
            off.away(0, 0, true);
            off.shoot();
            due(off, STATE, "least");
        });
    }

    public static void main(String[] args) {
        shooting();
        mend();
        better();
        least();
        end();
    }
}
