import com.sun.management.ThreadMXBean;
import java.lang.management.ManagementFactory;
import java.lang.reflect.Array;
import java.lang.reflect.Field;
import java.lang.reflect.Modifier;
import java.util.Collections;
import java.util.IdentityHashMap;
import java.util.Set;

/** All calls of one run live in one room: an object takes its part of it when it is made, and no call takes any more. */
public final class RoomTest {
    private static final String PLAIN = "plain 6 by 6;high 0 0 9;high 1 0 9;high 2 0 8;stone 3 3;source 1;farm a at 0 1 day 1 pie 5;"
            + "farm b at 1 1 day 9 pie 4;farm c at 5 5 day 40 pie 3;farm d at 2 2 day 9 pie 1;farm e at 0 3 day 9 pie 9;"
            + "farm f at 4 4 day 9 pie 2;caller l bold 0 kind 9;caller r bold 9 kind 0;goes min(kind*pie,99)-bold*down/2+been;"
            + "bakes max(pie+1-2*wet,been-year);";

    private final Set<Object> known = Collections.newSetFromMap(new IdentityHashMap<>());
    private int objects;
    private int elements;

    public static void main(String[] args) throws IllegalAccessException {
        Check check = new Check();
        RoomTest room = new RoomTest();
        room.count(new CalledRiver());
        check.due(room.objects + " objects and arrays are few", room.objects <= 300, true);
        check.due(room.elements + " fields and elements are few", room.elements <= 25000, true);
        ThreadMXBean meter = (ThreadMXBean) ManagementFactory.getThreadMXBean();
        if (meter.isThreadAllocatedMemorySupported() && meter.isThreadAllocatedMemoryEnabled()) {
            calls(check, meter);
        }
        check.finish();
    }

    private void count(Object one) throws IllegalAccessException {
        if (one == null || !known.add(one)) {
            return;
        }
        objects++;
        if (one.getClass().isArray()) {
            elements += Array.getLength(one);
            for (int k = 0; one instanceof Object[] && k < Array.getLength(one); k++) {
                count(Array.get(one, k));
            }
            return;
        }
        for (Field field : one.getClass().getDeclaredFields()) {
            if (!Modifier.isStatic(field.getModifiers())) {
                elements++;
                field.setAccessible(true);
                if (!field.getType().isPrimitive()) {
                    count(field.get(one));
                }
            }
        }
    }

    private static void calls(Check check, ThreadMXBean meter) {
        SentenceCheck.Call[] calls = {river -> river.feed(1, 2, 3, 4, 5), river -> river.end(0) ? 1 : 0, river -> river.fault(0),
            river -> river.has(5) + river.has(7) + river.has(8), river -> river.letter(0, 0, 0), river -> river.cell(0, 0, 0),
            river -> river.farm(0, 0), river -> river.caller(0, 0), river -> river.kept(0, 0), river -> river.way(0, 1, 0),
            river -> river.leads(1, 2), river -> river.best(), river -> river.least(3), river -> river.dry(), river -> river.bid(1, 0),
            river -> river.rest(0), river -> river.parts(0, 1, 1), river -> river.mill(2), river -> river.who(), river -> river.tells(0),
            river -> river.spring(0), river -> river.bake(0, 1) ? 1 : 0, river -> river.dig(0, 0), river -> river.stone(4, 0, 1) ? 1 : 0,
            river -> river.chance(100), river -> river.undo() ? 1 : 0, river -> river.seed(7) ? 1 : 0, river -> river.image(),
            river -> river.octet(0), river -> river.status(0)};
        for (int k = 0; k < calls.length; k++) {
            takes(check, meter, k, calls[k], "");
        }
        takes(check, meter, 100, river -> river.plain(), PLAIN);
        takes(check, meter, 101, river -> river.plain(), "plain 3 by 3;farm a at 0 0 day 0");
        takes(check, meter, 102, river -> river.ask(), "often [not pie*wet 0<(step 1+1)/2 or all] and number>column-row");
        takes(check, meter, 103, river -> river.see(), "\1\1\1\2\2\1");
        takes(check, meter, 104, river -> river.on() ? 1 : 0, "\0\0");
    }

    /** The first time the machine itself may take room, for the class or the call; so the second time is looked at. */
    private static void takes(Check check, ThreadMXBean meter, int which, SentenceCheck.Call call, String tape) {
        long taken = 0;
        for (int time = 0; time < 2; time++) {
            CalledRiver river = Check.river(PLAIN);
            Check.lay(river, tape);
            long ahead = meter.getCurrentThreadAllocatedBytes();
            call.on(river);
            taken = meter.getCurrentThreadAllocatedBytes() - ahead;
        }
        check.due("bytes that call " + which + " takes", taken, 0);
    }
}
