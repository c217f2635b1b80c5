import java.util.ArrayList;
import java.util.List;
import java.util.function.Consumer;
import java.util.function.ToIntFunction;

/** Two objects of one life: a call that only one of them gets must leave both telling the same. */
final class Twins {
    private Twins() { }

    /** The call answers as due, and changes nothing that any later call could tell. */
    static void unchanged(String name, Consumer<ThinkingArms> life, ToIntFunction<ThinkingArms> call, int want) {
        ThinkingArms asked = new ThinkingArms();
        ThinkingArms left = new ThinkingArms();
        life.accept(asked);
        life.accept(left);
        Check.due(name, call.applyAsInt(asked), want);
        Check.due(name + ": the first look that is another", firstOther(look(asked), look(left)), -1);
    }

    /** That the looks would show such a change. */
    static void changed(String name, Consumer<ThinkingArms> life, ToIntFunction<ThinkingArms> call) {
        ThinkingArms asked = new ThinkingArms();
        ThinkingArms left = new ThinkingArms();
        life.accept(asked);
        life.accept(left);
        call.applyAsInt(asked);
        Check.holds(name + " is seen", firstOther(look(asked), look(left)) >= 0);
    }

    private static int firstOther(List<Integer> some, List<Integer> others) {
        for (int k = 0; k < some.size(); k++) {
            if (!some.get(k).equals(others.get(k))) {
                return k;
            }
        }
        return -1;
    }

    /** All that can be told of an object, in 370 calls, so that a life of up to 140 fits ahead of it. */
    private static List<Integer> look(ThinkingArms x) {
        List<Integer> told = new ArrayList<>();
        lookAtSea(x, told);
        lookAtSheets(x, told);
        lookAtWalls(x, told);
        for (int a = 0; a < 3; a++) {
            told.add(x.head(a, a));
        }
        told.add(x.skin(1));
        lookAhead(x, told);
        lookAtTape(x, told);
        lookAtImages(x, told);
        for (int s = 0; s < 4; s++) {
            told.add(x.drop(s));
        }
        return told;
    }

    private static void lookAtSea(ThinkingArms x, List<Integer> told) {
        for (int what = 0; what <= 6; what++) {
            told.add(x.count(what));
        }
        for (int a = 0; a < 3; a++) {
            told.add(x.form(a));
            for (int k = 0; k < 7; k++) {
                for (int what = 0; what <= 5; what++) {
                    told.add(x.piece(a, k, what));
                }
                told.add(x.finds(a, k));
            }
        }
        for (int t = 0; t < 8; t++) {
            for (int what = 0; what <= 3; what++) {
                told.add(x.told(t, what));
            }
        }
    }

    /** Items are told by the cells of arms 0 and 1 alone, so a life films these. */
    private static void lookAtSheets(ThinkingArms x, List<Integer> told) {
        for (int i = 0; i <= 4; i++) {
            told.add(x.differs(0, 1, 1, i));
            told.add(x.differs(1, 1, 1, i));
            told.add(x.differs(0, 2, 2, i));
            told.add(x.differs(1, 2, 2, i));
        }
        told.add(x.differs(0, 3, 1, 0));
        told.add(x.differs(0, 3, 2, 0));
        told.add(x.item(3, 0, 63, 0));
    }

    /** The walls that are, then those of sheet 0, of which the items at the sea's corners are told. */
    private static void lookAtWalls(ThinkingArms x, List<Integer> told) {
        for (int c = 0; c < 64; c++) {
            told.add(x.wall(c & 7, c >> 3, false));
        }
        told.add(x.walls(0));
        told.add(x.wall(0, 0, false));
        told.add(x.wall(7, 0, false));
        told.add(x.wall(0, 7, false));
        told.add(x.wall(7, 7, false));
    }

    /** Rules are told by what is done by them. */
    private static void lookAhead(ThinkingArms x, List<Integer> told) {
        told.add(x.ticks(2));
        for (int a = 0; a < 3; a++) {
            for (int k = 0; k < 7; k++) {
                told.add(x.piece(a, k, 0));
                told.add(x.piece(a, k, 1));
            }
        }
    }

    private static void lookAtTape(ThinkingArms x, List<Integer> told) {
        told.add(x.type('f', 1));
        told.add(x.rules(0));
        told.add(x.finds(0, 1));
        told.add(x.finds(0, 2));
    }

    private static void lookAtImages(ThinkingArms x, List<Integer> told) {
        for (int n = 1; n >= 0; n--) {
            told.add(x.restore(n));
            for (int what = 0; what <= 6; what++) {
                told.add(x.count(what));
            }
            for (int k = 0; k < 4; k++) {
                told.add(x.piece(0, k, 0));
                told.add(x.piece(0, k, 2));
            }
            told.add(x.skin(3));
        }
    }
}
