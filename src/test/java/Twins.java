import java.util.List;

/** Two objects with the same past, of which one has refused some calls: they must answer alike from then on. */
final class Twins {
    private Twins() {
    }

    /** The first part of what can be asked (see Probe) in which the twins differ, or -1. */
    static int differ(String past, List<Call> refused) {
        for (int part = 0; part < Probe.PARTS; part++) {
            VerseSetter one = new VerseSetter();
            VerseSetter other = new VerseSetter();
            int used = Script.make(past, one);
            Script.make(past, other);
            for (Call call : refused) {
                call.on(one);
            }
            if (!Probe.look(one, part, used + refused.size()).equals(Probe.look(other, part, used))) {
                return part;
            }
        }
        return -1;
    }
}
