import java.util.ArrayList;
import java.util.List;

// Rule 7 of ../shared/LANGUAGE.md: no call throws or fails to end, for any arguments in any state.
// That binds later calls than the 512th too, though what they answer is free, so no answer is
// looked at here. A call that does not end runs into the time limit of .ci/run.
public final class AnyCallTest {
    private static final int WILD_CALLS_OF_A_RUN = 200_000;
    private static final int RUNS = 20;

    private static final int OPEN = 0;
    private static final int PIPE = 1;
    private static final int DUP = 2;
    private static final int CLOSE = 3;
    private static final int FORK = 4;
    private static final int EXIT = 5;
    private static final int WRITE = 6;
    private static final int READ = 7;
    private static final int SEEK = 8;
    private static final int LINK = 9;
    private static final int UNLINK = 10;

    private static final String[] METHODS = {
        "open", "pipe", "dup", "close", "fork", "exit", "write", "read", "seek", "link", "unlink", "counts"
    };
    private static final int[] ARGUMENTS = {2, 1, 2, 2, 1, 1, 3, 2, 3, 2, 1, 0};

    private static int wrong = 0;

    private static int answer(DescriptorTable x, int method, int a, int b, int c) {
        return switch (method) {
            case OPEN -> x.open(a, b);
            case PIPE -> x.pipe(a);
            case DUP -> x.dup(a, b);
            case CLOSE -> x.close(a, b);
            case FORK -> x.fork(a);
            case EXIT -> x.exit(a);
            case WRITE -> x.write(a, b, c);
            case READ -> x.read(a, b);
            case SEEK -> x.seek(a, b, c);
            case LINK -> x.link(a, b);
            case UNLINK -> x.unlink(a);
            default -> x.counts();
        };
    }

    private static void call(DescriptorTable x, String told, int method, int a, int b, int c) {
        try {
            answer(x, method, a, b, c);
        } catch (RuntimeException | Error thrown) {
            wrong++;
            if (wrong <= 20) {
                System.out.println(told + ": " + METHODS[method] + " of the arguments " + a + ", " + b + ", " + c
                    + " (as many of them as it takes) threw " + thrown);
            }
        }
    }

    // Every number near a range, and each power of two with its neighbours and their negatives.
    private static int[] numbers() {
        List<Integer> all = new ArrayList<>();
        for (int number = -9; number <= 30; number++) {
            all.add(number);
        }
        for (int power = 5; power < 32; power++) {
            for (int beside = -1; beside <= 1; beside++) {
                all.add((1 << power) + beside);
                all.add(-(1 << power) + beside);
            }
        }
        // Six times each of these, or eight times, wraps around to an index that an array has.
        for (int number : new int[] {715827882, 715827883, 1431655765, 1431655766, -715827882, 536870912, -536870911}) {
            all.add(number);
        }
        return all.stream().distinct().mapToInt(Integer::intValue).toArray();
    }

    private static final int[] FEW = {0, 3, -1, 6, Integer.MAX_VALUE, Integer.MIN_VALUE};

    // Each argument takes every number while the others take a few.
    private static void allArguments(DescriptorTable x, String told, int method) {
        int[] others = ARGUMENTS[method] > 1 ? FEW : new int[] {0};
        for (int one : numbers()) {
            for (int second : others) {
                for (int third : ARGUMENTS[method] > 2 ? FEW : new int[] {0}) {
                    call(x, told, method, one, second, third);
                    call(x, told, method, second, one, third);
                    call(x, told, method, second, third, one);
                }
            }
        }
    }

    private static long state;

    // A fixed row of numbers instead of a random source, so that a failure comes again.
    private static int next(int bound) {
        state = state * 6364136223846793005L + 1442695040888963407L;
        return (int) ((state >>> 33) % bound);
    }

    private static int pick(int bound) {
        return next(40) == 0 ? (int) (state >>> 20) : next(bound + 2) - 1;
    }

    private static DescriptorTable allAlive() {
        DescriptorTable x = new DescriptorTable();
        for (int time = 0; time < 3; time++) {
            call(x, "a new object", FORK, 0, 0, 0);
        }
        return x;
    }

    private static DescriptorTable fullOfFiles() {
        DescriptorTable x = allAlive();
        for (int place = 0; place < 24; place++) {
            call(x, "an object that is being filled", OPEN, place / 6, place % 4, 0);
            for (int time = 0; time < 8; time++) {
                call(x, "an object that is being filled", WRITE, place / 6, place % 6, time);
            }
            if (place < 20) {
                call(x, "an object that is being filled", UNLINK, place % 4, 0, 0);
            }
        }
        return x;
    }

    private static DescriptorTable fullOfPipes() {
        DescriptorTable x = allAlive();
        for (int process = 0; process < 4; process++) {
            for (int time = 0; time < 5; time++) {
                call(x, "an object that is being filled", PIPE, process, 0, 0);
                for (int number = 0; number < 6; number++) {
                    call(x, "an object that is being filled", WRITE, process, time + 1, number);
                }
                if (time < 4) {
                    call(x, "an object that is being filled", CLOSE, process, 0, 0);
                }
            }
        }
        return x;
    }

    private static void wildRun(int run) {
        state = 15485863L * (run + 1);
        DescriptorTable x = new DescriptorTable();
        String told = "wild run " + run;
        for (int time = 0; time < WILD_CALLS_OF_A_RUN; time++) {
            // Some runs seldom close and exit, so that the table stays full.
            int method = next(METHODS.length);
            if ((method == CLOSE || method == EXIT) && next(RUNS) < run) {
                method = WRITE;
            }
            boolean ofNames = method == OPEN || method == LINK;
            call(x, told, method, pick(4), pick(ofNames ? 4 : 6), pick(9));
        }
    }

    public static void main(String[] args) {
        for (int method = 0; method < METHODS.length; method++) {
            allArguments(new DescriptorTable(), "a new object", method);
            allArguments(fullOfFiles(), "an object full of files", method);
            allArguments(fullOfPipes(), "an object full of pipes", method);
        }
        for (int run = 0; run < RUNS; run++) {
            wildRun(run);
        }
        System.out.println(wrong == 0 ? "no call threw" : wrong + " calls threw");
        if (wrong != 0) {
            System.exit(1);
        }
    }
}
