import java.lang.reflect.InvocationTargetException;
import java.lang.reflect.Method;
import java.util.Arrays;
import java.util.NoSuchElementException;
import java.util.Random;

/** Runs of 512 calls with ordinary, near and wild arguments, each answer held against PlainHouse. */
public final class RandomRunsTest {
    private static final int RUNS = 400;
    private static final int CALLS = 512;
    private static final int[] WILD = {Integer.MIN_VALUE, Integer.MAX_VALUE, -1, -2, -3, -4, 64, 65, 1000, 1 << 30};
    /** A call's share of a run is how often it stands here. */
    private static final String[] KINDS = ("board make make make isLegal isLegal moves moves moves distance distance"
            + " distance best best best best line line line line number number show show move move move move ply ply"
            + " ply ply position position position count count longest feed feed feed read read read out out").split(" ");
    private static final Checks CHECKS = new Checks();

    private final Random random;
    private final EndgameHouse house = new EndgameHouse();
    private final PlainHouse plain = new PlainHouse();
    private final int run;
    private int files = 8;

    private RandomRunsTest(int run) {
        this.run = run;
        random = new Random(7919L * run);
    }

    public static void main(String[] args) throws ReflectiveOperationException {
        for (int run = 0; run < RUNS; run++) {
            RandomRunsTest test = new RandomRunsTest(run);
            for (int call = 0; call < CALLS; call++) {
                test.step(call);
            }
        }
        CHECKS.end();
    }

    private void step(int call) throws ReflectiveOperationException {
        String kind = KINDS[random.nextInt(call < 6 ? 9 : KINDS.length)];
        Object[] arguments = argumentsOf(kind);
        String got = ask(house, kind, arguments);
        String due = ask(plain, kind, arguments);
        CHECKS.same(() -> "run " + run + ", call " + call + ": " + kind + Arrays.toString(arguments) + " gave " + got
                + ", due is " + due + "; whether they are the same", got.equals(due) ? 1 : 0, 1);
    }

    private static String ask(Object asked, String kind, Object[] arguments) throws ReflectiveOperationException {
        Class<?>[] types = new Class<?>[arguments.length];
        Arrays.fill(types, int.class);
        Method method = asked.getClass().getDeclaredMethod(kind, types);
        try {
            return String.valueOf(method.invoke(asked, arguments));
        } catch (InvocationTargetException thrown) {
            Throwable cause = thrown.getCause();
            return cause instanceof NoSuchElementException ? "throws.NoSuchElementException" : "throws." + cause;
        }
    }

    private Object[] argumentsOf(String kind) {
        switch (kind) {
            case "board":
                return boardArguments();
            case "make":
                return new Object[] {wild(random.nextInt(3), 10)};
            case "move":
            case "ply":
                return new Object[] {wild(random.nextInt(8), 20), wild(random.nextInt(6), 20)};
            case "position":
                int most = random.nextBoolean() ? 3000 : 200000;
                return new Object[] {wild(random.nextInt(3), 20), wild(random.nextInt(most), 10), what()};
            case "count":
                return new Object[] {wild(random.nextInt(3), 20), turn(), wild(random.nextInt(30) - 4, 20)};
            case "longest":
                return new Object[] {wild(random.nextInt(3), 20), turn(), wild(random.nextInt(3), 20)};
            case "feed":
                return textArguments();
            case "read":
            case "out":
                return new Object[] {wild(random.nextInt(3) > 0 ? 13 : random.nextInt(22), 20)};
            default:
                return new Object[] {wild(random.nextInt(3), 40), square(), square(), square(), turn()};
        }
    }

    private int wild(int ordinary, int oneIn) {
        return random.nextInt(oneIn) == 0 ? WILD[random.nextInt(WILD.length)] : ordinary;
    }

    private int square() {
        return wild(random.nextInt(files * files), 60);
    }

    private int turn() {
        return wild(random.nextInt(2), 40);
    }

    private int what() {
        return wild(random.nextInt(6), 20);
    }

    /** Mostly small boards, on which runs meet more; the others come, too. */
    private Object[] boardArguments() {
        int n = wild(random.nextInt(5) == 0 ? 3 + random.nextInt(7) : 4 + random.nextInt(2), 10);
        if (n >= 4 && n <= 8) {
            files = n;
        }
        return new Object[] {n};
    }

    /** The text of some position, now and then with a byte that is wrong, as five numbers. */
    private Object[] textArguments() {
        char[] text = new char[20];
        Arrays.fill(text, (char) (32 + random.nextInt(200)));
        String right = "K" + squareText() + " " + "QRP".charAt(random.nextInt(3)) + squareText() + " k" + squareText()
                + " " + "wb".charAt(random.nextInt(2));
        right.getChars(0, 13, text, 0);
        if (random.nextInt(4) == 0) {
            text[random.nextInt(14)] = (char) random.nextInt(256);
        }
        Object[] arguments = new Object[5];
        for (int i = 0; i < 5; i++) {
            arguments[i] = text[4 * i] << 24 | text[4 * i + 1] << 16 | text[4 * i + 2] << 8 | text[4 * i + 3];
        }
        return arguments;
    }

    private String squareText() {
        int most = random.nextInt(10) == 0 ? 9 : files;
        return "" + (char) ('a' + random.nextInt(most)) + (char) ('1' + random.nextInt(most));
    }
}
