import java.util.function.Supplier;

/** A test for each sentence of the promises 7 to 12 that names a boundary case. */
public final class PermitEdgesTest extends Edges {
    private static final Supplier<BacklotPlanner> OVER = after(x -> shoot(x, 30));

    private static void grant(BacklotPlanner x, int count) {
        for (int i = 0; i < count; i++) {
            x.permit(0, 0, 29, 1);
        }
    }

    private static void permit() {
        sentence("7: set: 0 to 3", () -> {
            for (int set : new int[] {-1, 4, LOW, HIGH}) {
                changesNothing(EMPTY, ARGUMENT, "permit", set, 0, 0, 1);
            }
            for (int set = 0; set < 4; set++) {
                BacklotPlanner x = new BacklotPlanner();
                x.scene(set, 1);
                due(x, 0, "permit", set, 0, 0, 1);
                due(x, true, "isAllowed", 0, 0);
            }
        });
        sentence("7: from: 0 to 29", () -> {
            for (int from : new int[] {-1, 30, LOW, HIGH}) {
                changesNothing(EMPTY, ARGUMENT, "permit", 0, from, 29, 1);
                changesNothing(EMPTY, ARGUMENT, "permit", 0, from, from, 1);
            }
            due(EMPTY.get(), 0, "permit", 0, 0, 29, 1);
            due(EMPTY.get(), 0, "permit", 0, 29, 29, 1);
        });
        sentence("7: to: from to 29", () -> {
            changesNothing(EMPTY, ARGUMENT, "permit", 0, 0, -1, 1);
            changesNothing(EMPTY, ARGUMENT, "permit", 0, 7, 6, 1);
            changesNothing(EMPTY, ARGUMENT, "permit", 0, 29, 28, 1);
            changesNothing(EMPTY, ARGUMENT, "permit", 0, 0, 30, 1);
            changesNothing(EMPTY, ARGUMENT, "permit", 0, 29, 30, 1);
            changesNothing(EMPTY, ARGUMENT, "permit", 0, 0, HIGH, 1);
            changesNothing(EMPTY, ARGUMENT, "permit", 0, 0, LOW, 1);
            due(EMPTY.get(), 0, "permit", 0, 0, 0, 1);
            due(EMPTY.get(), 0, "permit", 0, 7, 7, 1);
            due(EMPTY.get(), 0, "permit", 0, 7, 29, 1);
        });
        sentence("7: flames: 1 to 9", () -> {
            for (int flames : new int[] {0, 10, -1, LOW, HIGH}) {
                changesNothing(EMPTY, ARGUMENT, "permit", 0, 0, 0, flames);
            }
            for (int flames = 1; flames <= 9; flames++) {
                BacklotPlanner x = new BacklotPlanner();
                x.scene(0, 9);
                due(x, 0, "permit", 0, 0, 0, flames);
                due(x, flames == 9, "isAllowed", 0, 0);
            }
        });
        sentence("7: a permit may be for days that are over, and when all are", () -> {
            BacklotPlanner x = new BacklotPlanner();
            x.scene(0, 1);
            shoot(x, 5);
            due(x, 0, "permit", 0, 0, 4, 1);
            due(x, true, "isAllowed", 0, 4);
            due(x, false, "isAllowed", 0, 5);
            due(OVER.get(), 0, "permit", 0, 29, 29, 9);
            changesNothing(OVER, ARGUMENT, "permit", 0, 30, 30, 9);
        });
        sentence("7: Returns its number, from 0.", () -> {
            BacklotPlanner x = new BacklotPlanner();
            for (int number = 0; number < 20; number++) {
                due(x, number, "permit", number % 4, number, 29, 1 + number % 9);
            }
        });
        sentence("7: IllegalStateException if there were 20", () -> {
            due(after(x -> grant(x, 19)).get(), 19, "permit", 0, 0, 0, 1);
            changesNothing(after(x -> grant(x, 20)), STATE, "permit", 0, 0, 0, 1);
            changesNothing(after(x -> {
                grant(x, 20);
                x.revoke(0);
                x.revoke(19);
            }), STATE, "permit", 0, 0, 0, 1);
        });
        sentence("7: of several exceptions the one for the arguments is first", () -> {
            Supplier<BacklotPlanner> full = after(x -> grant(x, 20));
            changesNothing(full, ARGUMENT, "permit", 4, 0, 0, 1);
            changesNothing(full, ARGUMENT, "permit", 0, -1, 0, 1);
            changesNothing(full, ARGUMENT, "permit", 0, 1, 0, 1);
            changesNothing(full, ARGUMENT, "permit", 0, 0, 0, 0);
            changesNothing(full, STATE, "permit", 3, 29, 29, 9);
        });
    }

    private static void revoke() {
        sentence("8: Returns how many more scenes are refused by that.", () -> {
            BacklotPlanner x = new BacklotPlanner();
            due(x, 0, "permit", 0, 0, 29, 9);
            due(x, 0, "revoke", 0);
            for (int flames = 0; flames < 10; flames++) {
                x.scene(0, flames);
            }
            due(x, 9, "refused");
            x.permit(0, 0, 29, 9);
            due(x, 0, "refused");
            due(x, 9, "revoke", 1);
            due(x, 9, "refused");
            x.permit(0, 0, 29, 4);
            x.permit(0, 0, 29, 6);
            due(x, 0, "revoke", 2);
            due(x, 6, "revoke", 3);
            x.permit(0, 9, 9, 9);
            due(x, 1, "revoke", 4);
            x.permit(0, 8, 8, 8);
            x.plays(8, 0, ANY);
            x.away(0, 8, true);
            due(x, 0, "revoke", 5);
        });
        sentence("8: scenes that are SHOT or CUT are not refused by it", () -> {
            BacklotPlanner x = new BacklotPlanner();
            x.permit(1, 0, 29, 1);
            for (int i = 0; i < 3; i++) {
                x.scene(1, 1);
            }
            x.shoot();
            x.cut(1);
            due(x, 1, "revoke", 0);
        });
        sentence("8: IndexOutOfBoundsException if there is no such permit", () -> {
            changesNothing(EMPTY, INDEX, "revoke", 0);
            Supplier<BacklotPlanner> two = after(x -> grant(x, 2));
            for (int permit : new int[] {-1, 2, 19, 20, LOW, HIGH}) {
                changesNothing(two, INDEX, "revoke", permit);
            }
            due(two.get(), 0, "revoke", 0);
            due(two.get(), 0, "revoke", 1);
            Supplier<BacklotPlanner> full = after(x -> grant(x, 20));
            due(full.get(), 0, "revoke", 19);
            changesNothing(full, INDEX, "revoke", 20);
        });
        sentence("8: IllegalStateException if it was revoked", () -> {
            Supplier<BacklotPlanner> once = after(x -> {
                x.scene(0, 1);
                grant(x, 3);
                x.revoke(1);
            });
            changesNothing(once, STATE, "revoke", 1);
            due(once.get(), 0, "revoke", 0);
            due(once.get(), 0, "revoke", 2);
        });
    }

    private static void away() {
        sentence("9: actor: 0 to 4", () -> {
            for (int actor : new int[] {-1, 5, LOW, HIGH}) {
                changesNothing(EMPTY, INDEX, "away", actor, 0, true);
            }
            due(EMPTY.get(), false, "away", 0, 0, true);
            due(EMPTY.get(), false, "away", 4, 0, true);
        });
        sentence("9: day: 0 to 29", () -> {
            for (int day : new int[] {-1, 30, 31, 32, LOW, HIGH}) {
                changesNothing(EMPTY, ARGUMENT, "away", 0, day, true);
                changesNothing(EMPTY, ARGUMENT, "away", 0, day, false);
            }
            due(EMPTY.get(), false, "away", 0, 0, true);
            due(EMPTY.get(), false, "away", 0, 29, true);
        });
        sentence("9: Sets whether an actor is away on a day, on this one alone.", () -> {
            BacklotPlanner x = new BacklotPlanner();
            scenes(x, 5);
            for (int actor = 0; actor < 5; actor++) {
                x.plays(actor, actor, ANY);
            }
            x.away(3, 0, true);
            x.away(3, 29, true);
            for (int actor = 0; actor < 5; actor++) {
                for (int day = 0; day < 30; day++) {
                    due(x, actor != 3 || day != 0 && day != 29, "isAllowed", actor, day);
                }
            }
        });
        sentence("9: Returns whether it was.", () -> {
            BacklotPlanner x = new BacklotPlanner();
            due(x, false, "away", 4, 29, false);
            due(x, false, "away", 4, 29, true);
            due(x, true, "away", 4, 29, true);
            due(x, true, "away", 4, 29, false);
            due(x, false, "away", 4, 29, false);
            changesNothing(EMPTY, false, "away", 2, 7, false);
            changesNothing(after(y -> y.away(2, 7, true)), true, "away", 2, 7, true);
        });
        sentence("9: an actor may be away on a day that is over", () -> {
            due(OVER.get(), false, "away", 0, 0, true);
            due(after(x -> {
                x.away(0, 0, true);
                shoot(x, 30);
            }).get(), true, "away", 0, 0, false);
        });
        sentence("9: of several exceptions the one for the index is first", () -> {
            changesNothing(EMPTY, INDEX, "away", 5, 30, true);
            changesNothing(EMPTY, INDEX, "away", -1, -1, false);
        });
    }

    private static void buy(BacklotPlanner x, int prop, int count) {
        for (int i = 0; i < count; i++) {
            x.buy(prop);
        }
    }

    private static void buy() {
        sentence("10: Buys a new copy of a prop, which costs 5.", () -> {
            BacklotPlanner x = new BacklotPlanner();
            x.buy(1);
            due(x, 5, "spent");
            due(x, 1, "copies", 1, 0);
            due(x, 0, "copies", 0, 0);
            due(x, 0, "copies", 2, 0);
            due(x, 0, "copies", 1, 1);
            due(x, 0, "cost");
        });
        sentence("10: prop: 0 to 4", () -> {
            for (int prop : new int[] {-1, 5, LOW, HIGH}) {
                changesNothing(EMPTY, INDEX, "buy", prop);
            }
            due(EMPTY.get(), 1, "buy", 0);
            due(EMPTY.get(), 1, "buy", 4);
        });
        sentence("10: Returns how many copies of it there are then.", () -> {
            BacklotPlanner x = new BacklotPlanner();
            scenes(x, 1);
            x.uses(0, 0, 1, 2);
            x.shoot();
            due(x, 2, "buy", 0);
            x.mishap(0, 0);
            due(x, 3, "buy", 0);
            x.mishap(0, 2);
            x.clear();
            due(x, 2, "buy", 0);
            due(x, 1, "buy", 1);
        });
        sentence("10: IllegalStateException if there are 20 copies of it or more", () -> {
            Supplier<BacklotPlanner> almost = after(x -> buy(x, 3, 19));
            due(almost.get(), 20, "buy", 3);
            Supplier<BacklotPlanner> full = after(x -> buy(x, 3, 20));
            changesNothing(full, STATE, "buy", 3);
            due(full.get(), 1, "buy", 2);
            changesNothing(after(x -> {
                buy(x, 3, 20);
                x.mishap(3, 0);
            }), STATE, "buy", 3);
            Supplier<BacklotPlanner> more = after(x -> {
                buy(x, 3, 20);
                for (int i = 0; i < 20; i++) {
                    x.mishap(3, 0);
                }
                scenes(x, 1);
                x.uses(0, 3, 0, 0);
                x.shoot();
            });
            due(more.get(), 105, "spent");
            due(more.get(), 1, "copies", 3, 0);
            changesNothing(more, STATE, "buy", 3);
            BacklotPlanner cleared = more.get();
            due(cleared, 20, "clear");
            due(cleared, 2, "buy", 3);
        });
        sentence("10: a copy may be bought when all days are over", () -> {
            BacklotPlanner x = OVER.get();
            due(x, 1, "buy", 0);
            due(x, 5, "spent");
        });
    }

    private static void clear() {
        sentence("11: Throws all broken copies away, of all props.", () -> {
            for (int prop = 0; prop < 5; prop++) {
                BacklotPlanner x = new BacklotPlanner();
                buy(x, prop, 3);
                x.mishap(prop, 0);
                x.mishap(prop, 0);
                due(x, 2, "clear");
                due(x, 0, "copies", prop, 3);
                due(x, 1, "copies", prop, 0);
            }
            BacklotPlanner kept = new BacklotPlanner();
            scenes(kept, 3);
            for (int to = 1; to <= 3; to++) {
                kept.uses(to - 1, to, 0, to);
            }
            kept.buy(0);
            shoot(kept, 3);
            due(kept, 1, "clear");
            for (int state = 0; state < 3; state++) {
                due(kept, 1, "copies", state, state);
            }
            due(kept, 0, "copies", 3, 3);
        });
        sentence("11: Returns how many they are.", () -> {
            changesNothing(EMPTY, 0, "clear");
            changesNothing(after(x -> buy(x, 0, 20)), 0, "clear");
            BacklotPlanner x = new BacklotPlanner();
            for (int prop = 0; prop < 5; prop++) {
                buy(x, prop, 20);
                for (int i = 0; i < 20; i++) {
                    x.mishap(prop, 0);
                }
            }
            due(x, 100, "clear");
            due(x, 0, "clear");
            due(x, 500, "spent");
        });
    }

    private static void mishap() {
        Supplier<BacklotPlanner> each = after(x -> {
            scenes(x, 2);
            x.uses(0, 2, 1, 1);
            x.uses(1, 2, 2, 2);
            x.swap(0, 1);
            shoot(x, 2);
            buy(x, 2, 1);
        });
        sentence("12: prop: 0 to 4", () -> {
            for (int prop : new int[] {-1, 5, LOW, HIGH}) {
                changesNothing(each, INDEX, "mishap", prop, 0);
            }
            for (int prop = 0; prop < 5; prop += 4) {
                BacklotPlanner x = new BacklotPlanner();
                buy(x, prop, 1);
                due(x, 1, "mishap", prop, 0);
            }
        });
        sentence("12: state: 0 to 2: the state in which it is", () -> {
            for (int state : new int[] {-1, 3, 4, LOW, HIGH}) {
                changesNothing(each, ARGUMENT, "mishap", 2, state);
            }
            for (int state = 0; state < 3; state++) {
                BacklotPlanner x = each.get();
                due(x, 1, "mishap", 2, state);
                for (int other = 0; other < 3; other++) {
                    due(x, other == state ? 0 : 1, "copies", 2, other);
                }
                due(x, 1, "copies", 2, 3);
            }
        });
        sentence("12: Returns how many copies of it are broken then.", () -> {
            BacklotPlanner x = each.get();
            due(x, 1, "mishap", 2, 0);
            due(x, 2, "mishap", 2, 2);
            due(x, 3, "mishap", 2, 1);
            x.clear();
            buy(x, 2, 2);
            buy(x, 1, 1);
            due(x, 1, "mishap", 1, 0);
            due(x, 1, "mishap", 2, 0);
            due(x, 2, "mishap", 2, 0);
            due(x, 2, "copies", 2, 3);
        });
        sentence("12: IllegalStateException if there is no copy in this state", () -> {
            for (int state = 0; state < 3; state++) {
                changesNothing(EMPTY, STATE, "mishap", 0, state);
                int broken = state;
                changesNothing(after(x -> {
                    buy(x, 2, 1);
                    x.scene(0, 0);
                    x.uses(0, 2, 0, broken);
                    x.shoot();
                    x.mishap(2, broken);
                }), STATE, "mishap", 2, state);
                changesNothing(each, STATE, "mishap", 1, state);
            }
        });
        sentence("12: of several exceptions the one for the index, then the one for the argument is first", () -> {
            changesNothing(EMPTY, INDEX, "mishap", 5, 3);
            changesNothing(EMPTY, INDEX, "mishap", -1, 0);
            changesNothing(EMPTY, ARGUMENT, "mishap", 0, 3);
            changesNothing(EMPTY, ARGUMENT, "mishap", 4, -1);
        });
    }

    public static void main(String[] args) {
        permit();
        revoke();
        away();
        buy();
        clear();
        mishap();
        end();
    }
}
