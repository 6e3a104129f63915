import java.util.ArrayDeque;
import java.util.ArrayList;
import java.util.HashSet;
import java.util.List;
import java.util.Set;

// Long mixed runs, each call compared with a model of the document in Java's objects and lists.
public final class ModelTest {
    private static final int CALLS = 512;
    private static final int RUNS_OF_EACH_MIX = 400;

    private static final int OPEN = 0;
    private static final int PIPE = 1;
    private static final int DUP = 2;
    private static final int CLOSE = 3;
    private static final int FORK = 4;
    private static final int EXIT = 5;
    private static final int WRITE = 6;
    private static final int READ = 7;
    private static final int SEEK = 8;
    private static final int LINK = 9;
    private static final int UNLINK = 10;
    private static final int COUNTS = 11;

    private static final String[] CALL_NAMES = {
        "open", "pipe", "dup", "close", "fork", "exit", "write", "read", "seek", "link", "unlink", "counts"
    };
    private static final int[] ARGUMENTS = {2, 1, 2, 2, 1, 1, 3, 2, 3, 2, 1, 0};

    // How often each call is made in a run, in the order of CALL_NAMES.
    private static final int[][] MIXES = {
        {10, 6, 5, 8, 4, 3, 20, 20, 6, 4, 4, 10},
        {30, 0, 3, 6, 4, 1, 10, 10, 8, 6, 20, 10},
        {2, 25, 3, 18, 4, 1, 25, 15, 1, 1, 1, 10},
        {1, 3, 1, 2, 1, 1, 50, 30, 1, 0, 0, 5},
        {8, 8, 8, 10, 20, 18, 8, 8, 2, 3, 3, 10},
        {3, 0, 2, 1, 1, 0, 40, 20, 20, 2, 2, 2},
    };

    private static final class ModelFile {
        final List<Integer> bytes = new ArrayList<>();
    }

    private static final class ModelPipe {
        final ArrayDeque<Integer> bytes = new ArrayDeque<>();
    }

    private static final class Opening {
        ModelFile file;
        int offset;
        ModelPipe pipe;
        boolean reads;
    }

    private static final class Model {
        // A process that is not alive is null, and so are a free descriptor and a free name.
        final Opening[][] processes = {new Opening[6], null, null, null};
        final ModelFile[] names = new ModelFile[4];

        int answer(int call, int a, int b, int c) {
            return switch (call) {
                case LINK -> link(a, b);
                case UNLINK -> unlink(a);
                case COUNTS -> counts();
                default -> a < 0 || a > 3 || processes[a] == null ? -1 : answerOfProcess(call, a, b, c);
            };
        }

        int answerOfProcess(int call, int a, int b, int c) {
            Opening[] own = processes[a];
            switch (call) {
                case OPEN:
                    return open(own, b);
                case PIPE:
                    return pipe(own);
                case FORK:
                    return fork(own);
                case EXIT:
                    return exit(a);
                default:
                    break;
            }
            if (b < 0 || b > 5 || own[b] == null) {
                return -1;
            }
            Opening opening = own[b];
            switch (call) {
                case DUP:
                    return lead(own, opening);
                case CLOSE:
                    own[b] = null;
                    return 0;
                case WRITE:
                    return opening.file != null ? writeFile(opening, c & 255) : writePipe(opening, c & 255);
                case READ:
                    return opening.file != null ? readFile(opening) : readPipe(opening);
                default:
                    if (opening.file == null || c < 0 || c > opening.file.bytes.size()) {
                        return -1;
                    }
                    opening.offset = c;
                    return 0;
            }
        }

        int lead(Opening[] own, Opening opening) {
            for (int descriptor = 0; descriptor < 6; descriptor++) {
                if (own[descriptor] == null) {
                    own[descriptor] = opening;
                    return descriptor;
                }
            }
            return -2;
        }

        int open(Opening[] own, int name) {
            if (name < 0 || name > 3) {
                return -1;
            }
            Opening opening = new Opening();
            opening.file = names[name] != null ? names[name] : new ModelFile();
            int descriptor = lead(own, opening);
            if (descriptor >= 0) {
                names[name] = opening.file;
            }
            return descriptor;
        }

        int pipe(Opening[] own) {
            Opening reading = new Opening();
            Opening writing = new Opening();
            reading.pipe = new ModelPipe();
            writing.pipe = reading.pipe;
            reading.reads = true;
            int first = lead(own, reading);
            if (first < 0) {
                return -2;
            }
            int second = lead(own, writing);
            if (second < 0) {
                own[first] = null;
                return -2;
            }
            return 8 * first + second;
        }

        int fork(Opening[] own) {
            for (int child = 0; child < 4; child++) {
                if (processes[child] == null) {
                    processes[child] = own.clone();
                    return child;
                }
            }
            return -2;
        }

        int exit(int process) {
            for (int other = 0; other < 4; other++) {
                if (other != process && processes[other] != null) {
                    processes[process] = null;
                    return 0;
                }
            }
            return -1;
        }

        Set<Opening> openings() {
            Set<Opening> all = new HashSet<>();
            for (Opening[] own : processes) {
                if (own != null) {
                    all.addAll(java.util.Arrays.asList(own));
                }
            }
            all.remove(null);
            return all;
        }

        boolean hasEnd(ModelPipe pipe, boolean reads) {
            return openings().stream().anyMatch(opening -> opening.pipe == pipe && opening.reads == reads);
        }

        int writeFile(Opening opening, int value) {
            if (opening.offset == 8) {
                return -2;
            }
            if (opening.offset == opening.file.bytes.size()) {
                opening.file.bytes.add(value);
            } else {
                opening.file.bytes.set(opening.offset, value);
            }
            opening.offset++;
            return 0;
        }

        int writePipe(Opening opening, int value) {
            if (opening.reads) {
                return -1;
            }
            if (!hasEnd(opening.pipe, true)) {
                return -3;
            }
            if (opening.pipe.bytes.size() == 6) {
                return -4;
            }
            opening.pipe.bytes.addLast(value);
            return 0;
        }

        int readFile(Opening opening) {
            if (opening.offset == opening.file.bytes.size()) {
                return -5;
            }
            return opening.file.bytes.get(opening.offset++);
        }

        int readPipe(Opening opening) {
            if (!opening.reads) {
                return -1;
            }
            if (opening.pipe.bytes.isEmpty()) {
                return hasEnd(opening.pipe, false) ? -4 : -5;
            }
            return opening.pipe.bytes.removeFirst();
        }

        int link(int from, int to) {
            if (from < 0 || from > 3 || to < 0 || to > 3 || names[from] == null || names[to] != null) {
                return -1;
            }
            names[to] = names[from];
            return 0;
        }

        int unlink(int name) {
            if (name < 0 || name > 3 || names[name] == null) {
                return -1;
            }
            names[name] = null;
            return 0;
        }

        int counts() {
            Set<ModelFile> files = new HashSet<>(java.util.Arrays.asList(names));
            Set<ModelPipe> pipes = new HashSet<>();
            Set<Opening> openings = openings();
            for (Opening opening : openings) {
                files.add(opening.file);
                pipes.add(opening.pipe);
            }
            files.remove(null);
            pipes.remove(null);
            return 100 * openings.size() + 10 * files.size() + pipes.size();
        }
    }

    private static int answer(DescriptorTable x, int call, int a, int b, int c) {
        return switch (call) {
            case OPEN -> x.open(a, b);
            case PIPE -> x.pipe(a);
            case DUP -> x.dup(a, b);
            case CLOSE -> x.close(a, b);
            case FORK -> x.fork(a);
            case EXIT -> x.exit(a);
            case WRITE -> x.write(a, b, c);
            case READ -> x.read(a, b);
            case SEEK -> x.seek(a, b, c);
            case LINK -> x.link(a, b);
            case UNLINK -> x.unlink(a);
            default -> x.counts();
        };
    }

    private static long state;

    // A fixed row of numbers instead of a random source, so that a failure comes again.
    private static int next(int bound) {
        state = state * 6364136223846793005L + 1442695040888963407L;
        return (int) ((state >>> 33) % bound);
    }

    private static int pickCall(int[] mix) {
        int all = 0;
        for (int weight : mix) {
            all += weight;
        }
        int left = next(all);
        int call = 0;
        while (left >= mix[call]) {
            left -= mix[call];
            call++;
        }
        return call;
    }

    // Mostly a number that may be right, now and then one beside the range or far from it.
    private static int pickNumber(int bound) {
        return switch (next(60)) {
            case 0 -> -1;
            case 1 -> bound;
            case 2 -> (int) (state >>> 20);
            default -> next(bound);
        };
    }

    private static int pickThird(int call) {
        if (call == WRITE) {
            return (int) (state >>> 24);
        }
        return pickNumber(9);
    }

    private static String told(int call, int a, int b, int c) {
        String arguments = switch (ARGUMENTS[call]) {
            case 0 -> "";
            case 1 -> "" + a;
            case 2 -> a + ", " + b;
            default -> a + ", " + b + ", " + c;
        };
        return CALL_NAMES[call] + "(" + arguments + ")";
    }

    private static boolean runAgrees(int mix, int run) {
        state = 1000003L * mix + run;
        DescriptorTable x = new DescriptorTable();
        Model model = new Model();
        for (int number = 1; number <= CALLS; number++) {
            int call = pickCall(MIXES[mix]);
            boolean ofNames = call == LINK || call == UNLINK;
            int a = pickNumber(4);
            int b = pickNumber(call == OPEN || ofNames ? 4 : 6);
            int c = pickThird(call);
            int want = model.answer(call, a, b, c);
            int got = answer(x, call, a, b, c);
            if (got != want) {
                System.out.println("mix " + mix + ", run " + run + ", call " + number + ": "
                    + told(call, a, b, c) + " answered " + got + ", due is " + want);
                return false;
            }
        }
        return true;
    }

    public static void main(String[] args) {
        int wrong = 0;
        for (int mix = 0; mix < MIXES.length; mix++) {
            for (int run = 0; run < RUNS_OF_EACH_MIX; run++) {
                if (!runAgrees(mix, run)) {
                    wrong++;
                }
            }
        }
        System.out.println(wrong == 0 ? "all runs are as due" : wrong + " runs are not as due");
        if (wrong != 0) {
            System.exit(1);
        }
    }
}
