import java.util.IdentityHashMap;
import java.util.List;
import java.util.Map;

/** What the tests of refused calls use: what a call answers or throws, and that nothing else is changed by it. */
abstract class Edges extends Checked {
    private static final Map<Scene, List<String>> KNOWN = new IdentityHashMap<>();

    /** The call throws just that, and nothing is changed by it. */
    static void refused(String what, Class<? extends RuntimeException> kind, Scene scene, Scene call) {
        CountedRoom x = new CountedRoom();
        scene.play(x);
        refuses(what, kind, () -> call.play(x));
        sameWhole(what, whole(scene), scene.then(call.quietly()));
    }

    /** The call throws just that, and uses the TAPE up; no text is read, so that fault() stays. */
    static void refusedUnread(String what, Class<? extends RuntimeException> kind, Scene scene, Scene call) {
        CountedRoom x = new CountedRoom();
        scene.play(x);
        refuses(what, kind, () -> call.play(x));
        sameWhole(what, Whole.deep(scene.then(y -> y.end(0))), scene.then(call.quietly()));
    }

    /** The call throws just that, uses the TAPE up, and fault() is what it is told to be; nothing else is changed. */
    static void refusedText(String what, Class<? extends RuntimeException> kind, int fault, Scene scene, String text,
            Scene call) {
        Scene told = x -> {
            scene.play(x);
            x.end(0);
            Checks.tell(x, text);
        };
        CountedRoom x = new CountedRoom();
        told.play(x);
        refuses(what, kind, () -> call.play(x));
        same(what + ": fault", fault, x.fault());
        Scene empty = scene.then(y -> y.end(0));
        Scene after = told.then(call.quietly());
        sameWhole(what, withFault(Whole.deep(empty), fault), after);
    }

    static long bit(boolean is) {
        return is ? 1 : 0;
    }

    private static List<String> withFault(List<String> whole, int fault) {
        List<String> other = new java.util.ArrayList<>(whole);
        other.replaceAll(line -> line.startsWith("fault() = ") ? "fault() = " + fault : line);
        return other;
    }

    /** The call answers that, and nothing is changed by it. */
    static void answersAlone(String what, long due, Scene scene, Whole.Question call) {
        CountedRoom x = new CountedRoom();
        scene.play(x);
        same(what, due, call.ask(x));
        sameWhole(what, whole(scene), scene.then(call::ask));
    }

    /** The call answers that, and all that is changed by it is told by another Scene. */
    static void answersAs(String what, long due, Scene scene, Whole.Question call, Scene other) {
        CountedRoom x = new CountedRoom();
        scene.play(x);
        same(what, due, call.ask(x));
        sameWhole(what, Whole.deep(scene.then(other)), scene.then(call::ask));
    }

    private static List<String> whole(Scene scene) {
        return KNOWN.computeIfAbsent(scene, Whole::deep);
    }

    private static void sameWhole(String what, List<String> due, Scene scene) {
        same(what + ": what is changed", "", Whole.difference(due, Whole.deep(scene)));
    }
}
