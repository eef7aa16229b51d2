import java.util.EnumMap;
import java.util.Map;
import java.util.function.Supplier;

/** Rows of boundary cases: an answer that is due, and what may be seen of the object afterwards. */
final class Edge {
    static final int MIN = Integer.MIN_VALUE;
    static final int MAX = Integer.MAX_VALUE;

    /** A call. */
    interface Call {
        int on(CommaCopies x);
    }

    /** A call with one argument that goes through several values. */
    interface With {
        int on(CommaCopies x, int v);
    }

    final Check check = new Check();
    private final Map<Scene, Map<Seen, String>> untouched = new EnumMap<>(Scene.class);

    /** The answer is as due, and all is as if the call had not been made. */
    void leaves(String what, Scene scene, int want, Call call) {
        Map<Seen, String> before = untouched.computeIfAbsent(scene, s -> parts(s::make));
        for (Seen part : Seen.values()) {
            CommaCopies x = scene.make();
            check.due(what + " in " + scene, call.on(x), want);
            alike(what + " in " + scene, part.of(x), before.get(part));
        }
    }

    /** The same with each of some values. */
    void leavesEach(String what, Scene scene, int want, With call, int... values) {
        for (int v : values) {
            leaves(what + " (" + v + ")", scene, want, x -> call.on(x, v));
        }
    }

    /** A call that changes something, and one that takes this back: nothing else has changed. */
    void comesBack(String what, Scene scene, int want, Call call, int wantBack, Call back) {
        leaves(what + ", back", scene, wantBack, x -> {
            check.due(what + " in " + scene, call.on(x), want);
            return back.on(x);
        });
    }

    /** The answer is as due, and all is as it was but that THE TAPE is empty. */
    void empties(String what, Scene scene, String tape, int want, Call call) {
        same(what + " in " + scene, () -> {
            CommaCopies x = scene.make(tape);
            check.due(what + " in " + scene, call.on(x), want);
            return x;
        }, () -> scene.make(""));
    }

    /** Two ways to make an object come to the same. */
    void same(String what, Supplier<CommaCopies> one, Supplier<CommaCopies> other) {
        Map<Seen, String> due = parts(other);
        for (Seen part : Seen.values()) {
            alike(what, part.of(one.get()), due.get(part));
        }
    }

    private static Map<Seen, String> parts(Supplier<CommaCopies> maker) {
        Map<Seen, String> parts = new EnumMap<>(Seen.class);
        for (Seen part : Seen.values()) {
            parts.put(part, part.of(maker.get()));
        }
        return parts;
    }

    private void alike(String what, String got, String want) {
        check.due(what + ": seen " + got + " but not " + want, got.equals(want) ? 1 : 0, 1);
    }

    void end() {
        check.end();
    }
}
