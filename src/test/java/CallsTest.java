import java.lang.reflect.Method;
import java.util.List;

/**
 * What it is: an object is used for at most 512 calls, so that the 512th one answers as the first ones do; and all
 * calls of one object live in one room of some 600000 objects and 7.3 million elements (LANGUAGE.md, rule 12).
 */
public final class CallsTest extends Edges {
    /** A byte is the least that an element takes, and 16 bytes are the least that an object takes. */
    private static final long MOST_BYTES = 7_300_000;

    public static void main(String[] args) {
        lastCallOfEach();
        lastCallChanges();
        sameCallsAgain();
        if (allocated() >= 0) {
            dearestCalls();
        }
        Checks.finish("CallsTest");
    }

    private static void countUpTo(CountedRoom x, int calls) {
        while (x.calls() < calls) {
            x.count(x.calls() % 15);
        }
    }

    /** The 512th call, behind many others, answers what it answers at once. */
    private static void lastCallOfEach() {
        Whole.Question[] last = {x -> x.feed(1, 2, 3, 4, 5), x -> bit(x.end(9)), x -> x.story(0, 0), x -> x.fault(),
            x -> x.part(0, 6), x -> x.rule(0, 600, 0), x -> x.best(10, 1), x -> x.ends(10, 1), x -> x.hand(10, false),
            x -> x.machine(1, 1), x -> x.brass(0, 8, 9), x -> bit(x.broken(1, false)), x -> x.give(11, 1),
            x -> x.minutes(120), x -> x.runs(1, 5), x -> x.slug(5, 4), x -> x.says(0, 1), x -> x.lies(0, 1),
            x -> x.judge(0), x -> bit(x.pie(0)), x -> bit(x.change(0, 1)), x -> x.again(1, 0, 1),
            x -> bit(x.slip(0, 0, 5)), x -> bit(x.read(1, 1)), x -> x.proof(3), x -> x.carry(0, 1, 6),
            x -> x.where(2, 6, 6), x -> x.fit(0, 11), x -> x.fits(0, 11, 3, true), x -> x.lock(4, 2),
            x -> x.locked(0, 2), x -> x.stands(0, 0, 1), x -> x.edition(), x -> x.changed(1, 0, NONE), x -> x.least(),
            x -> x.ahead(0), x -> x.pay(1, 0, 600), x -> x.row(1, 1), x -> x.tear(1, 1, 6), x -> x.check(),
            x -> bit(x.back()), x -> x.count(4)};
        int[] due = {29, 1, 4, NONE, 1, 40, 29, 2, 3, 2, 8, 1, 2, 126, 10, 2, 'z', 2, 0, 1, 1, 2, 1, 1, 1, 4, 7, 7, 1, 2,
            4, 6, 1, 2, 0, NONE, 24, 3, 5, 11, 1, 7};
        for (int i = 0; i < last.length; i++) {
            CountedRoom x = new CountedRoom();
            Scenes.night(x);
            countUpTo(x, CountedRoom.MOST_CALLS - 1);
            same("What it is: the 512th call, " + i, due[i], last[i].ask(x));
            same("What it is: it was the 512th", CountedRoom.MOST_CALLS, x.calls());
        }
        CountedRoom y = new CountedRoom();
        countUpTo(y, CountedRoom.MOST_CALLS - 1);
        refuses("What it is: the 512th call is refused as any other one", INDEX, () -> y.part(0, 0));
    }

    /** What changes a room does so in the 511th call, too. */
    private static void lastCallChanges() {
        CountedRoom x = new CountedRoom();
        countUpTo(x, 510);
        same("What it is: the 511th call", 0, x.machine(9, 0));
        same("What it is: what it changed", 1, x.count(3));
        CountedRoom y = new CountedRoom();
        for (int i = 0; i < 511; i++) {
            same("What it is: call " + i, Math.min(600, 2 * i + 2), y.minutes(2));
        }
        same("What it is: the 512th call behind 511 others", 600, y.count(0));
    }

    private static void sameCallsAgain() {
        List<String> one = Whole.deep(Scenes::night);
        List<String> other = Whole.deep(Scenes::night);
        same("Rule 13: the same calls give the same answers", "", Whole.difference(one, other));
    }

    /** As many of the dearest calls as there may be, of rooms that are as full as may be. */
    private static void dearestCalls() {
        Scene[] scenes = {Scenes::slugs, Scenes::stories, Scenes::styles, Scenes::jobs, Scenes::tellings,
            Scenes::editions, Scenes::night, CallsTest::fullPages};
        Whole.Question[] calls = {x -> x.ahead(NONE), x -> x.least(), x -> x.best(0, 0), x -> x.rule(0, 600, 0),
            x -> done(x::image), x -> bit(x.back()), x -> x.minutes(120), x -> x.pay(0, 0, 600), x -> x.fit(0, 7),
            x -> x.judge(0), x -> x.check(), x -> x.hand(0, true), x -> x.proof(3)};
        for (int i = 0; i < scenes.length; i++) {
            for (int k = 0; k < calls.length; k++) {
                long bytes = bytesOf(scenes[i], calls[k]);
                same("Rule 12: bytes of scene " + i + " and calls " + k + ", " + bytes, true, bytes <= MOST_BYTES);
            }
            long bytes = bytesOf(scenes[i], x -> calls[x.calls() % calls.length].ask(x));
            same("Rule 12: bytes of scene " + i + " and all calls, " + bytes, true, bytes <= MOST_BYTES);
        }
    }

    private static long done(Runnable act) {
        act.run();
        return 0;
    }

    private static void fullPages(CountedRoom x) {
        x.image();
        Scenes.slugs(x);
        x.image();
        x.ahead(NONE);
        x.page(0, 3, 60);
        x.lock(0, 1);
    }

    /** So many bytes this thread has asked for; -1 with a Java that does not tell. */
    private static long allocated() {
        try {
            Object threads = Class.forName("java.lang.management.ManagementFactory").getMethod("getThreadMXBean").invoke(null);
            Method told = Class.forName("com.sun.management.ThreadMXBean").getMethod("getThreadAllocatedBytes", long.class);
            return (Long) told.invoke(threads, Thread.currentThread().getId());
        } catch (ReflectiveOperationException e) {
            return -1;
        }
    }

    private static long bytesOf(Scene scene, Whole.Question call) {
        long before = allocated();
        CountedRoom x = new CountedRoom();
        scene.play(x);
        boolean refused = false;
        while (x.calls() < CountedRoom.MOST_CALLS && !refused) {
            try {
                call.ask(x);
            } catch (RuntimeException e) {
                // what a refused call makes is the exception alone
                refused = true;
            }
        }
        countUpTo(x, CountedRoom.MOST_CALLS);
        return allocated() - before;
    }
}
