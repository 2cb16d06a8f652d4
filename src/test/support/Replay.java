import java.lang.reflect.InvocationTargetException;
import java.lang.reflect.Method;
import java.util.regex.Matcher;
import java.util.regex.Pattern;

/** Makes calls that are given as texts, as in detach(0, 1) or append('C'), on an object of its own, and compares their answers. */
final class Replay {
    private static final Pattern CALL = Pattern.compile("(\\w+)\\(([^)]*)\\)");
    private static final Pattern CALL_AND_ANSWER = Pattern.compile("\\w+\\([-\\d,\\s]*\\)\\s*->\\s*-?\\d+");

    private final CondensedDetachment x = new CondensedDetachment();

    /** Makes the calls of a text of the form call -> answer, call -> answer, and so on; the answer is their number. */
    static int run(String calls) {
        Replay replay = new Replay();
        Matcher found = CALL_AND_ANSWER.matcher(calls);
        int count = 0;
        int end = 0;
        while (found.find()) {
            Checks.due(calls.substring(end, found.start()).replace(',', ' ').trim(), "");
            String[] parts = found.group().split("->");
            replay.due(parts[0].trim(), Long.parseLong(parts[1].trim()));
            end = found.end();
            count++;
        }
        Checks.due(calls.substring(end).trim(), "");
        return count;
    }

    void due(String call, long want) {
        long got = answerOf(call);
        if (got != want) {
            Checks.due(call + " -> " + got, call + " -> " + want);
        }
    }

    void type(String text) {
        for (int i = 0; i < text.length(); i++) {
            x.append(text.charAt(i));
        }
    }

    String output() {
        StringBuilder text = new StringBuilder();
        for (int i = 0; i < x.outputLength(); i++) {
            text.append((char) x.outputAt(i));
        }
        return text.toString();
    }

    private long answerOf(String call) {
        Matcher parts = CALL.matcher(call);
        if (!parts.matches()) {
            throw new IllegalArgumentException("no call: " + call);
        }
        String[] texts = parts.group(2).isBlank() ? new String[0] : parts.group(2).split(",");
        Object[] arguments = new Object[texts.length];
        for (int i = 0; i < texts.length; i++) {
            arguments[i] = number(texts[i].trim());
        }
        return ask(parts.group(1), arguments);
    }

    private static int number(String text) {
        return text.length() == 3 && text.charAt(0) == '\'' ? text.charAt(1) : Integer.parseInt(text);
    }

    private long ask(String name, Object[] arguments) {
        for (Method method : CondensedDetachment.class.getMethods()) {
            if (method.getName().equals(name) && method.getParameterCount() == arguments.length) {
                try {
                    return ((Number) method.invoke(x, arguments)).longValue();
                } catch (IllegalAccessException | InvocationTargetException fault) {
                    throw new IllegalStateException(name + " ended by " + fault.getCause(), fault);
                }
            }
        }
        throw new IllegalArgumentException("no method " + name + " with " + arguments.length + " arguments");
    }
}
