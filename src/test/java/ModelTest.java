import java.lang.reflect.Method;
import java.util.ArrayList;
import java.util.Arrays;
import java.util.Comparator;
import java.util.List;
import java.util.Random;

/** Runs of chance calls, the same on the class and on the model; every answer must be alike. */
public final class ModelTest {
    private static final int RUNS = 1500;
    private static final int MOST_CALLS = 512;
    private static final String[] ITEMS = {"house 0;", "house 4;", "rate 0 9;", "rate 1 0;", "war;",
        "bar 0 0 5 22 23;", "bar 1;", "bar 1 1 2 3 04;", "doing 3 12;", "doing 5 20;", "doing 2 7;",
        " doing 4 0 ;", "doing 0 10;", "doing 1 1;", "doing2 3;"};
    private static final String[] SCRAPS = {"house", "rate", "bar", "war", "doing", ";", " ", "0",
        "1", "9", "10", "20", "21", "24", "123", "x", "-", "A", "\t", "\n", "\u0000", "/", ":", "`", "{"};

    private final Check check = new Check();
    private final Random random = new Random(20261117);
    private final List<Method> calls = new ArrayList<>();

    private BedFrontier real;
    private Model model;
    private int made;
    private String lastCall;

    public static void main(String[] args) throws ReflectiveOperationException {
        new ModelTest().run();
    }

    private void run() throws ReflectiveOperationException {
        for (Method m : BedFrontier.class.getDeclaredMethods()) {
            if (java.lang.reflect.Modifier.isPublic(m.getModifiers())) {
                calls.add(m);
            }
        }
        calls.sort(Comparator.comparing(Method::getName));
        check.due("methods of the face", calls.size(), 33);
        for (int i = 0; i < RUNS && check.isClean(); i++) {
            oneRun(i);
        }
        check.finish();
    }

    private void oneRun(int number) throws ReflectiveOperationException {
        real = new BedFrontier();
        model = new Model();
        made = 0;
        List<String> told = new ArrayList<>();
        while (made < MOST_CALLS - 2 && check.isClean()) {
            step(number, told);
        }
        if (!check.isClean()) {
            System.out.println("the run was: " + told);
        }
    }

    private void step(int number, List<String> told) throws ReflectiveOperationException {
        int dice = random.nextInt(100);
        if (dice < 2 && made < 250) {
            typeText(number, told);
            return;
        }
        Method m = dice < 12 ? named("doing") : calls.get(random.nextInt(calls.size()));
        Object[] args = new Object[m.getParameterCount()];
        for (int i = 0; i < args.length; i++) {
            args[i] = argument(m.getName(), i);
        }
        if (m.getName().equals("note") && random.nextBoolean()) {
            args[4] = model.noteOf(random.nextInt(6), args);
        }
        boolean endsHouse = m.getName().equals("house") || m.getName().equals("read");
        if (endsHouse && random.nextInt(4) > 0) {
            return;
        }
        both(number, told, m, args);
        both(number, told, named("digest"));
    }

    private Method named(String name) {
        for (Method m : calls) {
            if (m.getName().equals(name)) {
                return m;
            }
        }
        throw new IllegalStateException(name);
    }

    private void both(int number, List<String> told, Method m, Object... args)
            throws ReflectiveOperationException {
        lastCall = m.getName() + Arrays.toString(args);
        told.add(lastCall);
        long got = ((Number) m.invoke(real, args)).longValue();
        Method same = Model.class.getDeclaredMethod(m.getName(), m.getParameterTypes());
        long want = ((Number) same.invoke(model, args)).longValue();
        made++;
        check.due("run " + number + ", call " + made + ", " + lastCall, got, want);
    }

    private void typeText(int number, List<String> told) throws ReflectiveOperationException {
        StringBuilder text = new StringBuilder();
        if (random.nextInt(5) > 0) {
            text.append("house ").append(random.nextInt(10)).append(';');
        }
        for (int n = random.nextInt(10); n > 0; n--) {
            text.append(ITEMS[random.nextInt(ITEMS.length)]);
        }
        for (int n = random.nextInt(3); n > 0; n--) {
            text.insert(random.nextInt(text.length() + 1), SCRAPS[random.nextInt(SCRAPS.length)]);
        }
        both(number, told, named("clear"));
        for (int i = 0; i < text.length(); i++) {
            both(number, told, named("type"), (int) text.charAt(i));
        }
        both(number, told, named("read"));
        both(number, told, named("digest"));
    }

    private Integer argument(String call, int place) {
        if (random.nextInt(40) == 0) {
            int[] far = {Integer.MIN_VALUE, Integer.MAX_VALUE, -1, -2, 2, 6, 10, 11, 21, 24, 25, 61,
                128, 1000000, 16777216};
            return far[random.nextInt(far.length)];
        }
        switch (call) {
            case "bar":
                return place == 0 ? random.nextInt(2) : hours();
            case "doing":
                return place == 0 ? random.nextInt(6) : random.nextInt(21);
            case "house":
            case "rate":
                return place == 0 && call.equals("rate") ? random.nextInt(2) : random.nextInt(10);
            case "type":
                return random.nextInt(128);
            case "waits":
                return 1 + random.nextInt(random.nextInt(4) == 0 ? 24 : 3);
            case "due":
            case "wars":
            case "before":
                return hourOrSide(call, place);
            case "least":
                return random.nextInt(7) - 1;
            case "note":
                return new int[] {random.nextInt(4), random.nextInt(2), random.nextInt(24),
                    random.nextInt(2), random.nextInt(6)}[place];
            case "sentry":
                return place == 0 ? random.nextInt(4) : random.nextInt(11);
            case "days":
                return place == 0 ? random.nextInt(1000000) : random.nextInt(61);
            case "child":
                return random.nextInt(8);
            case "count":
                return random.nextInt(7);
            case "status":
                return random.nextInt(3);
            case "now":
                return random.nextInt(4);
            default:
                return random.nextInt(place == 0 && !call.equals("war") ? 3 : 2);
        }
    }

    private int hourOrSide(String call, int place) {
        int sidePlace = call.equals("due") ? 1 : 0;
        if (call.equals("due") && place == 0) {
            return random.nextInt(4);
        }
        boolean isSide = call.equals("before") ? place % 2 == 0 : place == sidePlace;
        return isSide ? random.nextInt(2) : random.nextInt(24);
    }

    private int hours() {
        int some = random.nextInt(16777216);
        switch (random.nextInt(4)) {
            case 0:
                return 16777215;
            case 1:
                return some | random.nextInt(16777216);
            case 2:
                return some & random.nextInt(16777216);
            default:
                return some;
        }
    }
}
