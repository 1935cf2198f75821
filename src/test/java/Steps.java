import java.lang.reflect.InvocationTargetException;
import java.lang.reflect.Method;
import java.util.ArrayList;
import java.util.HashMap;
import java.util.List;
import java.util.Map;

/**
 * Tests written as steps, each test on a new object. A step is one of
 * <pre>
 *   call(1, 2) = 3      the call is due to answer 3
 *   call(1, 2) ? 3      too, and changes nothing, as it only asks
 *   call(1, 2) ! -2     too, and changes nothing, as it is refused
 *   call(1, 2) ?        changes nothing, whatever it answers
 *   text: TEXT = 1      all of TEXT is fed, then text() is due to answer 1
 *   tape: TEXT          all of TEXT is fed
 *   bytes 0: 1 2 3      sheet 0 becomes these bytes (shorts, ints likewise)
 * </pre>
 * That nothing changes is held by a twin, for which the call is left out: both must read alike ever after.
 */
final class Steps {
    private static final Map<String, Method> CALLS = new HashMap<>();
    private static final int CALLS_MOST = 512;

    private final Due due = new Due();

    static {
        for (Method m : ScythesKeepStep.class.getDeclaredMethods()) {
            CALLS.put(m.getName(), m);
        }
    }

    /** One call with its arguments; without an answer that is due, if want is null. */
    private record Call(String text, Method method, Object[] args, Long want, boolean changes) {
        long on(ScythesKeepStep x) {
            try {
                return ((Number) method.invoke(x, args)).longValue();
            } catch (IllegalAccessException | InvocationTargetException e) {
                throw new IllegalStateException(text, e);
            }
        }
    }

    /** A test's steps that are shared with others, and some of its own. */
    static String[] with(String[] shared, String... own) {
        String[] all = new String[shared.length + own.length];
        System.arraycopy(shared, 0, all, 0, shared.length);
        System.arraycopy(own, 0, all, shared.length, own.length);
        return all;
    }

    void test(String title, String... steps) {
        ScythesKeepStep x = new ScythesKeepStep();
        List<Call> done = new ArrayList<>();
        for (String step : steps) {
            for (Call call : callsOf(step)) {
                String name = title + ": " + call.text;
                long got = call.on(x);
                if (call.want != null) {
                    due.due(name, got, call.want);
                }
                if (call.changes) {
                    done.add(call);
                } else {
                    String change = change(done, call);
                    due.holds(name + " changes something: " + change, change.isEmpty());
                }
            }
        }
    }

    /** Behind the steps that are shared, the last step changes just what is told, by lines of Readings. */
    void changes(String title, String[] shared, String last, String... lines) {
        test(title, with(shared, last));
        List<Call> done = new ArrayList<>();
        for (String step : shared) {
            done.addAll(callsOf(step));
        }
        Readings ahead = readings(done);
        done.addAll(callsOf(last));
        List<String> changes = ahead.changes(readings(done));
        due.holds(title + ": " + last + " changes " + changes, changes.equals(List.of(lines)));
    }

    void end() {
        due.end();
    }

    private static String change(List<Call> done, Call asked) {
        List<Call> all = new ArrayList<>(done);
        all.add(asked);
        return readings(done).unlike(readings(all));
    }

    /** What a new object reads behind these calls. */
    private static Readings readings(List<Call> calls) {
        ScythesKeepStep x = new ScythesKeepStep();
        for (Call call : calls) {
            call.on(x);
        }
        Readings readings = new Readings(x);
        if (calls.size() + readings.calls() > CALLS_MOST) {
            throw new IllegalStateException("too many calls: " + calls.get(calls.size() - 1).text);
        }
        return readings;
    }

    private static List<Call> callsOf(String step) {
        List<Call> calls = new ArrayList<>();
        if (step.endsWith(" ?")) {
            calls.add(call(step, nameIn(step), false, null, argsIn(step)));
            return calls;
        }
        int colon = step.indexOf(": ");
        int sign = Math.max(step.lastIndexOf(" = "), Math.max(step.lastIndexOf(" ? "), step.lastIndexOf(" ! ")));
        Long want = sign < 0 ? null : number(step.substring(sign + 3));
        if (step.startsWith("text: ")) {
            addFeeds(calls, step.substring(6, sign));
            calls.add(call(step, "text", true, want));
        } else if (step.startsWith("tape: ")) {
            addFeeds(calls, step.substring(6));
        } else if (colon >= 0) {
            addCells(calls, step.substring(0, colon), step.substring(colon + 2).trim());
        } else {
            calls.add(call(step, nameIn(step), step.charAt(sign + 1) == '=', want, argsIn(step)));
        }
        return calls;
    }

    private static String nameIn(String step) {
        return step.substring(0, step.indexOf('('));
    }

    private static int[] argsIn(String step) {
        String inside = step.substring(step.indexOf('(') + 1, step.indexOf(')')).replace(" ", "");
        String[] args = inside.isEmpty() ? new String[0] : inside.split(",");
        int[] numbers = new int[args.length];
        for (int i = 0; i < args.length; i++) {
            numbers[i] = (int) number(args[i]);
        }
        return numbers;
    }

    private static void addFeeds(List<Call> calls, String text) {
        for (int i = 0; i < text.length(); i += 5) {
            int[] args = new int[6];
            args[0] = Math.min(5, text.length() - i);
            for (int k = 0; k < args[0]; k++) {
                args[k + 1] = text.charAt(i + k);
            }
            calls.add(call(text, "feed", true, null, args));
        }
    }

    private static void addCells(List<Call> calls, String sheet, String list) {
        String[] numbers = list.isEmpty() ? new String[0] : list.split(" ");
        int sort = sheet.startsWith("bytes ") ? 0 : sheet.startsWith("shorts ") ? 1 : 2;
        int s = (int) number(sheet.substring(sheet.indexOf(' ') + 1));
        calls.add(call(sheet, "sheet", true, 1L, s, sort, numbers.length));
        for (int i = 0; i < numbers.length; i++) {
            calls.add(call(sheet, "cell", true, 1L, s, i, (int) number(numbers[i])));
        }
    }

    private static Call call(String text, String name, boolean changes, Long want, int... args) {
        Object[] boxed = new Object[args.length];
        for (int i = 0; i < args.length; i++) {
            boxed[i] = args[i];
        }
        return new Call(text, CALLS.get(name), boxed, want, changes);
    }

    private static long number(String s) {
        return switch (s.trim()) {
            case "MIN" -> Integer.MIN_VALUE;
            case "MAX" -> Integer.MAX_VALUE;
            case "NO" -> ScythesKeepStep.NO;
            default -> Long.parseLong(s.trim());
        };
    }
}
