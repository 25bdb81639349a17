import java.io.IOException;
import java.lang.reflect.InvocationTargetException;
import java.lang.reflect.Method;
import java.util.Arrays;
import java.util.Comparator;

/** Runs each method of a test class that quotes the document, and looks the quotation up there. */
final class Sentences {
    private Sentences() {
    }

    static void hold(Class<?> tests) throws IOException, IllegalAccessException {
        Document document = new Document();
        Method[] methods = tests.getDeclaredMethods();
        Arrays.sort(methods, Comparator.comparing(Method::getName));
        int ran = 0;
        int wrong = 0;
        for (Method m : methods) {
            Says says = m.getAnnotation(Says.class);
            if (says == null) continue;
            wrong += hold(m, says, document);
            ran++;
        }
        System.out.println(tests.getName() + ": " + ran + " sentences, "
                + (wrong == 0 ? "all answers are as due" : wrong + " answers are not as due"));
        if (wrong != 0 || ran == 0) System.exit(1);
    }

    private static int hold(Method m, Says says, Document document) throws IllegalAccessException {
        Due due = new Due(m.getDeclaringClass().getName() + "." + m.getName() + ", promise " + says.promise());
        for (String words : says.value()) {
            if (!document.says(says.promise(), words)) due.fault("the document doesn't say: " + words);
        }
        try {
            m.invoke(null, due);
        } catch (InvocationTargetException e) {
            due.fault("threw " + e.getCause());
        }
        return due.wrong();
    }
}
