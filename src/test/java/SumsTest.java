/** Promises 16 and 17: mean and digest. */
public final class SumsTest {
    private SumsTest() {
    }

    public static void main(String[] args) {
        Tests.runAll(SumsTest.class);
    }

    @Says("Returns the mean of the minutes that all who wait have waited; 0 if nobody waits.")
    private static void promise16Mean() {
        PodGuideway x = Check.ring(0, 3, 9);
        Check.due("nobody waits", x.mean(), 0.0);
        x.ride(0, 1);
        Check.due("just come", x.mean(), 0.0);
        x.pass(5);
        Check.due("one for 5", x.mean(), 5.0);
        x.ride(1, 0);
        Check.due("5 and 0", x.mean(), 2.5);
        x.pass(1);
        x.ride(0, 1);
        Check.due("6, 1 and 0", x.mean(), 7.0 / 3.0);
        x.pod(0);
        x.pass(1);
        Check.due("the first has gone: 2 and 1", x.mean(), 1.5);
        x.pod(0);
        x.pod(1);
        x.pass(1);
        Check.due("nobody waits any more", x.mean(), 0.0);
    }

    private static long mixed(long start, int... numbers) {
        long d = start;
        for (int x : numbers) {
            d = d * 31 + x;
        }
        return d;
    }

    @Says({
        "Computes a checksum. A number d starts with 1399;",
        "Returns d."
    })
    private static void promise17DigestOfNewObject() {
        long d = mixed(1399L, 0, 0, 0, 0, 0, 0, 24, 0, 0);
        for (int place = 0; place < 24; place++) {
            d = mixed(d, -1);
        }
        Check.due("digest of a new object", new PodGuideway().digest(), d);
    }

    @Says({
        "for each of the following numbers x, d becomes d * 31 + x,",
        "what count() tells, in its order; for each station what station() tells, in its "
            + "order, and what waits() tells of each one who waits there; for each pod what "
            + "told() tells; for each place what slot() tells."
    })
    private static void promise17DigestInItsOrder() {
        PodGuideway x = Check.ring(0, 3);
        x.pod(0);
        x.pod(0);
        x.ride(0, 1);
        x.ride(1, 0);
        x.ride(1, 0);
        x.pass(2);
        // Pod 0 carries the rider from 0, pod 1 was called to 1 and is one place behind.
        long d = mixed(1399L, 2, 2, 2, 2, 1, 0, 22, 1, 0);
        d = mixed(d, 0, 0, 0, 0, 0, 0, 0);
        d = mixed(d, 3, 0, 0, 2, 1, 4, 0, 20, 20);
        d = mixed(d, 1, -1, -1, 1, 1, 0);
        d = mixed(d, 0, -1, -1, 1, 0, 0);
        d = mixed(d, 1, 0);
        for (int place = 2; place < 24; place++) {
            d = mixed(d, -1);
        }
        Check.due("digest under way", x.digest(), d);
        Check.due("digest changes nothing", x.digest(), d);
    }

    @Says("which wraps around as a 64-bit integer:")
    private static void promise17DigestWraps() {
        PodGuideway x = Check.ring(0);
        long before = x.digest();
        x.pass(1);
        // The minute comes first: behind it 8 counts, 7 of the station and 24 slots follow.
        long factor = 1L;
        for (int i = 0; i < 8 + 7 + 24; i++) {
            factor *= 31L;
        }
        Check.due("one minute more", x.digest(), before + factor);
    }
}
