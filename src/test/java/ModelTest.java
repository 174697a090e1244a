import java.io.IOException;
import java.lang.reflect.InvocationTargetException;
import java.lang.reflect.Method;
import java.lang.reflect.Modifier;
import java.nio.file.DirectoryStream;
import java.nio.file.Files;
import java.nio.file.Path;
import java.util.HashMap;
import java.util.List;
import java.util.Map;

/**
 * Plays the runs under src/test/runs: a line "new" begins an object, any other line is a call, its arguments
 * and the answer that is due (IA, IS: an exception), as src/test/model/model.py, a second program, has it.
 */
public final class ModelTest {
    private static final Checks CHECKS = new Checks("ModelTest");
    private static final Map<String, Method> CALLS = new HashMap<>();

    public static void main(String[] args) throws IOException, IllegalAccessException {
        for (Method method : WholeInternet.class.getDeclaredMethods()) {
            if (Modifier.isPublic(method.getModifiers())) CALLS.put(method.getName(), method);
        }
        int files = 0;
        try (DirectoryStream<Path> runs = Files.newDirectoryStream(Path.of("src/test/runs"), "*.txt")) {
            for (Path file : runs) {
                play(file);
                files++;
            }
        }
        CHECKS.due("files of runs", files > 0, true);
        CHECKS.end();
    }

    private static void play(Path file) throws IOException, IllegalAccessException {
        WholeInternet x = null;
        int line = 0;
        List<String> lines = Files.readAllLines(file);
        for (String text : lines) {
            line++;
            if (text.equals("new")) {
                x = new WholeInternet();
                continue;
            }
            String[] words = text.split(" ");
            String due = words[words.length - 1];
            String got = answer(x, words);
            CHECKS.due(file + ":" + line + ": " + text + " (answered " + got + ")", got.equals(due), true);
        }
    }

    private static String answer(WholeInternet x, String[] words) throws IllegalAccessException {
        Method method = CALLS.get(words[0]);
        Class<?>[] types = method.getParameterTypes();
        Object[] values = new Object[types.length];
        for (int i = 0; i < types.length; i++) {
            long value = Long.parseLong(words[i + 1]);
            if (types[i] == boolean.class) values[i] = value != 0;
            else if (types[i] == long.class) values[i] = value;
            else values[i] = (int) value;
        }
        try {
            Object told = method.invoke(x, values);
            if (told == null) return "0";
            if (told instanceof Boolean) return (Boolean) told ? "1" : "0";
            return told.toString();
        } catch (InvocationTargetException e) {
            if (e.getCause() instanceof IllegalArgumentException) return "IA";
            if (e.getCause() instanceof IllegalStateException) return "IS";
            return String.valueOf(e.getCause());
        }
    }
}
