import java.util.ArrayList;
import java.util.Arrays;
import java.util.List;

// A test for each sentence of the document; the sentence is the test's label. For each refused
// call new objects are led through the same calls, some with and some without the refused call,
// and all that follows must be answered alike.
public final class SentencesTest {
    private static final int BAD = -1;
    private static final int NO_ROOM = -2;
    private static final int BROKEN = -3;
    private static final int WAIT = -4;
    private static final int END = -5;

    private static final int MOST_CALLS = 512;
    private static final int MIXED_ROWS = 12;
    private static final int CALLS_OF_A_MIXED_ROW = 120;
    private static final int MIXED_RUNS = 40;
    // Short of 512, so that the looks still fit in.
    private static final int CALLS_OF_A_MIXED_RUN = 300;

    private static final int MIN = Integer.MIN_VALUE;
    private static final int MAX = Integer.MAX_VALUE;
    // Besides the neighbours of each range and the ends of int, numbers that a mask, a cast to a
    // shorter type or a product that wraps around (6 * 715827883 is 2) would take for right ones.
    private static final int[] NO_PROCESS =
        {-1, 4, -2, -4, 5, 7, 8, 24, 256, 65536, 1 << 30, 715827882, 715827883, MAX, MIN};
    private static final int[] NO_DESCRIPTOR =
        {-1, 6, -2, -6, -7, 7, 8, 11, 12, 18, 23, 24, 256, 65536, 1 << 30, MAX, MIN};
    private static final int[] NO_NAME =
        {-1, 4, -2, -4, 5, 7, 8, 23, 27, 28, 256, 65536, 1 << 30, MAX, MIN};

    private static int wrong = 0;

    private static void fault(String text) {
        wrong++;
        System.out.println(text);
    }

    private record Call(String method, int a, int b, int c) {
        int on(DescriptorTable x) {
            return switch (method) {
                case "open" -> x.open(a, b);
                case "pipe" -> x.pipe(a);
                case "dup" -> x.dup(a, b);
                case "close" -> x.close(a, b);
                case "fork" -> x.fork(a);
                case "exit" -> x.exit(a);
                case "write" -> x.write(a, b, c);
                case "read" -> x.read(a, b);
                case "seek" -> x.seek(a, b, c);
                case "link" -> x.link(a, b);
                case "unlink" -> x.unlink(a);
                case "counts" -> x.counts();
                default -> throw new IllegalArgumentException(method);
            };
        }

        @Override
        public String toString() {
            return switch (method) {
                case "counts" -> "counts()";
                case "pipe", "fork", "exit", "unlink" -> method + "(" + a + ")";
                case "write", "seek" -> method + "(" + a + ", " + b + ", " + c + ")";
                default -> method + "(" + a + ", " + b + ")";
            };
        }
    }

    private static Call call(String method, int... arguments) {
        int[] all = Arrays.copyOf(arguments, 3);
        return new Call(method, all[0], all[1], all[2]);
    }

    // ---- What can be asked of an object to see its whole state

    private static final List<List<Call>> LOOKS = new ArrayList<>();

    private static void makeLooks() {
        LOOKS.add(lookAtBytes());
        LOOKS.add(lookAtFiles());
        LOOKS.add(lookAtOpenings());
        LOOKS.add(lookAtNames());
        LOOKS.add(lookAtBytesOfNames());
        LOOKS.add(lookAtFreeDescriptors());
        LOOKS.add(lookAtRoom());
        LOOKS.add(lookAtProcesses());
        for (int row = 0; row < MIXED_ROWS; row++) {
            LOOKS.add(mixedRow(row));
        }
    }

    private static List<Call> lookAtBytes() {
        List<Call> row = new ArrayList<>();
        row.add(call("counts"));
        for (int place = 0; place < 24; place++) {
            for (int time = 0; time < 9; time++) {
                row.add(call("read", place / 6, place % 6));
            }
        }
        return row;
    }

    private static List<Call> lookAtFiles() {
        List<Call> row = new ArrayList<>();
        for (int place = 0; place < 24; place++) {
            row.add(call("seek", place / 6, place % 6, 0));
            row.add(call("read", place / 6, place % 6));
        }
        for (int place = 0; place < 24; place++) {
            row.add(call("read", place / 6, place % 6));
        }
        return row;
    }

    private static List<Call> lookAtOpenings() {
        List<Call> row = new ArrayList<>();
        for (int place = 0; place < 24; place++) {
            row.add(call("close", place / 6, place % 6));
            row.add(call("counts"));
        }
        return row;
    }

    private static List<Call> lookAtNames() {
        List<Call> row = new ArrayList<>();
        for (int name = 0; name < 4; name++) {
            row.add(call("link", name, (name + 1) % 4));
        }
        for (int name = 0; name < 4; name++) {
            row.add(call("unlink", name));
            row.add(call("counts"));
        }
        row.addAll(lookAtOpenings());
        return row;
    }

    private static List<Call> lookAtBytesOfNames() {
        List<Call> row = new ArrayList<>();
        for (int process = 0; process < 4; process++) {
            row.add(call("close", process, 0));
            for (int name = 0; name < 4; name++) {
                row.add(call("open", process, name));
                for (int time = 0; time < 9; time++) {
                    row.add(call("read", process, 0));
                }
                row.add(call("close", process, 0));
            }
        }
        return row;
    }

    private static List<Call> lookAtFreeDescriptors() {
        List<Call> row = new ArrayList<>();
        for (int process = 0; process < 4; process++) {
            row.add(call("pipe", process));
            for (int time = 0; time < 6; time++) {
                row.add(call("open", process, time % 4));
            }
        }
        row.add(call("counts"));
        return row;
    }

    private static List<Call> lookAtRoom() {
        List<Call> row = new ArrayList<>();
        for (int place = 0; place < 24; place++) {
            for (int time = 0; time < 5; time++) {
                row.add(call("write", place / 6, place % 6, 10 * place + time));
            }
        }
        for (int place = 0; place < 24; place++) {
            row.add(call("seek", place / 6, place % 6, 3));
            row.add(call("read", place / 6, place % 6));
        }
        return row;
    }

    private static List<Call> lookAtProcesses() {
        List<Call> row = new ArrayList<>();
        for (int process = 0; process < 4; process++) {
            row.add(call("fork", process));
        }
        for (int process = 0; process < 4; process++) {
            row.add(call("exit", process));
            row.add(call("counts"));
        }
        return row;
    }

    private static final String[] METHODS = {
        "open", "pipe", "dup", "close", "fork", "exit", "write", "read", "seek", "link", "unlink", "counts"
    };

    // What fills the table comes more often than what empties it.
    private static final String[] FILLING_METHODS = {
        "open", "open", "open", "pipe", "pipe", "dup", "dup", "close", "close", "fork", "fork", "exit",
        "write", "write", "write", "write", "write", "write", "read", "read", "read", "seek", "link", "unlink"
    };

    private static long state;

    // A fixed row of numbers instead of a random source, so that a failure comes again.
    private static int next(int bound) {
        state = state * 6364136223846793005L + 1442695040888963407L;
        return (int) ((state >>> 33) % bound);
    }

    private static List<Call> mixedRow(int number) {
        state = 7919L * (number + 1);
        List<Call> row = new ArrayList<>();
        while (row.size() < CALLS_OF_A_MIXED_ROW) {
            row.add(mixedCall(METHODS));
        }
        return row;
    }

    private static Call mixedCall(String[] methods) {
        String method = methods[next(methods.length)];
        boolean ofNames = method.equals("link") || method.equals("open");
        return call(method, next(4), next(ofNames ? 4 : 6), next(9));
    }

    private static int[] answersAfter(List<Call> calls, List<Call> look) {
        DescriptorTable x = new DescriptorTable();
        for (Call each : calls) {
            each.on(x);
        }
        int[] answers = new int[Math.min(look.size(), Math.max(0, MOST_CALLS - calls.size()))];
        for (int place = 0; place < answers.length; place++) {
            answers[place] = look.get(place).on(x);
        }
        return answers;
    }

    private static int[][] allAnswersAfter(List<Call> calls) {
        int[][] all = new int[LOOKS.size()][];
        for (int look = 0; look < all.length; look++) {
            all[look] = answersAfter(calls, LOOKS.get(look));
        }
        return all;
    }

    private static void dueUnchanged(String label, List<Call> before, int[][] due, Call refused) {
        List<Call> with = new ArrayList<>(before);
        with.add(refused);
        for (int look = 0; look < LOOKS.size(); look++) {
            int[] got = answersAfter(with, LOOKS.get(look));
            int place = Arrays.mismatch(got, Arrays.copyOf(due[look], got.length));
            if (place >= 0) {
                fault(label + ": the refused " + refused + " after " + before + " changed something: "
                    + place + " calls later " + LOOKS.get(look).get(place) + " answered " + got[place]
                    + ", due is " + due[look][place]);
                return;
            }
        }
    }

    // ---- A run of calls on a new object

    private static final class Answer {
        final Run run;
        final Call call;
        final int value;

        Answer(Run run, Call call, int value) {
            this.run = run;
            this.call = call;
            this.value = value;
        }

        void is(int due) {
            isWithoutALook(due);
            if (value < 0) {
                changesNothing();
            }
        }

        // For long rows of the same refused call, where a look after each one would take too long.
        void isWithoutALook(int due) {
            if (value != due) {
                fault(run.label + ": call " + run.calls.size() + ", " + call + ", answered " + value
                    + ", due is " + due);
            }
        }

        void changesNothing() {
            List<Call> before = run.calls.subList(0, run.calls.size() - 1);
            if (run.dueFromHere == null) {
                run.dueFromHere = allAnswersAfter(before);
            }
            dueUnchanged(run.label, before, run.dueFromHere, call);
        }
    }

    private static final class Run {
        final String label;
        final List<Call> calls = new ArrayList<>();
        final DescriptorTable x = new DescriptorTable();
        // What the looks answer after the last call that was not refused; null if not asked yet.
        int[][] dueFromHere;

        Run(String label) {
            this.label = label;
        }

        Answer make(String method, int... arguments) {
            Call made = call(method, arguments);
            calls.add(made);
            if (calls.size() > MOST_CALLS) {
                fault(label + ": the test makes more calls than the document allows");
            }
            Answer answer = new Answer(this, made, made.on(x));
            if (answer.value >= 0) {
                dueFromHere = null;
            }
            return answer;
        }

        Answer open(int process, int name) {
            return make("open", process, name);
        }

        Answer pipe(int process) {
            return make("pipe", process);
        }

        Answer dup(int process, int descriptor) {
            return make("dup", process, descriptor);
        }

        Answer close(int process, int descriptor) {
            return make("close", process, descriptor);
        }

        Answer fork(int process) {
            return make("fork", process);
        }

        Answer exit(int process) {
            return make("exit", process);
        }

        Answer write(int process, int descriptor, int value) {
            return make("write", process, descriptor, value);
        }

        Answer read(int process, int descriptor) {
            return make("read", process, descriptor);
        }

        Answer seek(int process, int descriptor, int offset) {
            return make("seek", process, descriptor, offset);
        }

        Answer link(int from, int to) {
            return make("link", from, to);
        }

        Answer unlink(int name) {
            return make("unlink", name);
        }

        Answer counts() {
            return make("counts");
        }

        void writes(int process, int descriptor, int... values) {
            for (int value : values) {
                write(process, descriptor, value).is(0);
            }
        }

        void reads(int process, int descriptor, int... due) {
            for (int each : due) {
                read(process, descriptor).is(each);
            }
        }

        void opens(int process, int name, int... due) {
            for (int each : due) {
                open(process, name).is(each);
            }
        }

        void closes(int process, int... descriptors) {
            for (int each : descriptors) {
                close(process, each).is(0);
            }
        }

        void allAlive() {
            fork(0).is(1);
            fork(0).is(2);
            fork(0).is(3);
        }

        // Leaves exactly the descriptors of the process free whose bits are in the mask.
        void fillBut(int process, int name, int mask) {
            opens(process, name, 0, 1, 2, 3, 4, 5);
            for (int descriptor = 0; descriptor < 6; descriptor++) {
                if ((mask >> descriptor & 1) != 0) {
                    closes(process, descriptor);
                }
            }
        }

        void everyCallOfProcessIsBad(int process) {
            open(process, 0).is(BAD);
            open(process, 3).is(BAD);
            pipe(process).is(BAD);
            fork(process).is(BAD);
            exit(process).is(BAD);
            for (int descriptor = 0; descriptor < 6; descriptor++) {
                everyCallOfDescriptorIsBad(process, descriptor);
            }
        }

        void everyCallOfDescriptorIsBad(int process, int descriptor) {
            dup(process, descriptor).is(BAD);
            close(process, descriptor).is(BAD);
            write(process, descriptor, 77).is(BAD);
            read(process, descriptor).is(BAD);
            seek(process, descriptor, 0).is(BAD);
        }
    }

    private static int least(int mask) {
        return mask == 0 ? NO_ROOM : Integer.numberOfTrailingZeros(mask);
    }

    private static int[] bytes(int first, int number) {
        int[] row = new int[number];
        for (int place = 0; place < number; place++) {
            row[place] = first + place;
        }
        return row;
    }

    // ---- What it is

    private static void atMost512Calls() {
        String label = "An object is used for at most 512 calls";
        Run r = new Run(label + ": new files");
        for (int round = 0; round < 127; round++) {
            r.open(0, round % 4).is(0);
            r.write(0, 0, round).is(0);
            r.unlink(round % 4).is(0);
            r.close(0, 0).is(0);
        }
        r.open(0, 0).is(0);
        r.write(0, 0, 5).is(0);
        r.seek(0, 0, 0).is(0);
        dueLast(r, r.read(0, 0), 5);

        r = new Run(label + ": openings of one file");
        for (int round = 0; round < 170; round++) {
            r.open(0, 0).is(0);
            r.write(0, 0, round).is(0);
            r.close(0, 0).is(0);
        }
        r.open(0, 0).is(0);
        dueLast(r, r.read(0, 0), 169);

        r = new Run(label + ": new pipes");
        for (int round = 0; round < 127; round++) {
            r.pipe(0).is(1);
            r.write(0, 1, round).is(0);
            r.close(0, round % 2).is(0);
            r.close(0, 1 - round % 2).is(0);
        }
        r.pipe(0).is(1);
        r.read(0, 0).is(WAIT);
        r.close(0, 1).is(0);
        dueLast(r, r.read(0, 0), END);

        r = new Run(label + ": new processes");
        r.open(0, 0).is(0);
        for (int round = 0; round < 255; round++) {
            r.fork(round % 2).is(1 - round % 2);
            r.exit(round % 2).is(0);
        }
        dueLast(r, r.counts(), 110);

        r = new Run(label + ": bytes through a pipe");
        r.pipe(0).is(1);
        for (int round = 0; round < 255; round++) {
            r.write(0, 1, round).is(0);
            r.read(0, 0).is(round);
        }
        dueLast(r, r.read(0, 0), WAIT);

        r = new Run(label + ": refused calls");
        for (int round = 0; round < 511; round++) {
            r.unlink(0).isWithoutALook(BAD);
        }
        dueLast(r, r.pipe(0), 1);
    }

    private static void atMost512CallsOfOneMethod() {
        oneMethodToTheEnd(call("open", 0, 4), BAD, call("open", 0, 0), 3);
        oneMethodToTheEnd(call("pipe", 1), BAD, call("pipe", 0), 8 * 3 + 4);
        oneMethodToTheEnd(call("dup", 0, 3), BAD, call("dup", 0, 1), 3);
        oneMethodToTheEnd(call("close", 0, 3), BAD, call("close", 0, 2), 0);
        oneMethodToTheEnd(call("fork", 2), BAD, call("fork", 0), 1);
        oneMethodToTheEnd(call("exit", 0), BAD, call("exit", 0), BAD);
        oneMethodToTheEnd(call("write", 0, 1, 9), BAD, call("write", 0, 2, 9), 0);
        oneMethodToTheEnd(call("read", 0, 0), END, call("read", 0, 1), 200);
        oneMethodToTheEnd(call("seek", 0, 0, 0), 0, call("seek", 0, 0, 1), 0);
        oneMethodToTheEnd(call("link", 1, 2), BAD, call("link", 0, 2), 0);
        oneMethodToTheEnd(call("unlink", 1), BAD, call("unlink", 0), 0);
        oneMethodToTheEnd(call("counts"), 311, call("counts"), 311);
    }

    private static void oneMethodToTheEnd(Call many, int due, Call last, int dueAtLast) {
        Run r = new Run("An object is used for at most 512 calls: " + many.method + " alone");
        r.open(0, 0).is(0);
        r.write(0, 0, 100).is(0);
        r.pipe(0).is(8 + 2);
        r.write(0, 2, 200).is(0);
        while (r.calls.size() < MOST_CALLS - 1) {
            r.make(many.method, many.a, many.b, many.c).isWithoutALook(due);
        }
        dueLast(r, r.make(last.method, last.a, last.b, last.c), dueAtLast);
    }

    private static void dueLast(Run r, Answer answer, int due) {
        answer.is(due);
        if (r.calls.size() != MOST_CALLS) {
            fault(r.label + ": the test makes " + r.calls.size() + " calls");
        }
    }

    // ---- Terms

    private static void processesAre0To3() {
        String label = "PROCESSES are 0 to 3";
        Run r = new Run(label + ": each of them can live");
        r.allAlive();
        for (int process = 0; process < 4; process++) {
            r.open(process, process).is(0);
            r.writes(process, 0, 50 + process);
        }
        r.counts().is(440);
        for (int process = 0; process < 4; process++) {
            r.seek(process, 0, 0).is(0);
            r.reads(process, 0, 50 + process, END);
        }
        for (int process : NO_PROCESS) {
            r = new Run(label + ": too small or too large");
            r.allAlive();
            for (int each = 0; each < 4; each++) {
                r.opens(each, each, 0, 1, 2, 3, 4);
                r.writes(each, 0, 50 + each);
            }
            r.everyCallOfProcessIsBad(process);
        }
    }

    private static void atTheStartOnlyProcess0IsAlive() {
        String label = "at the start only process 0 is [alive]";
        for (int process = 1; process < 4; process++) {
            Run r = new Run(label);
            r.everyCallOfProcessIsBad(process);
            r.open(0, 0).is(0);
            r.writes(0, 0, 9);
            r.everyCallOfProcessIsBad(process);
        }
        Run r = new Run(label + ": process 0");
        r.fork(0).is(1);
        r = new Run(label + ": process 0 is the only one");
        r.exit(0).is(BAD);
    }

    private static void atTheStartAllDescriptorsAreFree() {
        Run r = new Run("and all its descriptors are free");
        for (int descriptor = 0; descriptor < 6; descriptor++) {
            r.everyCallOfDescriptorIsBad(0, descriptor);
        }
        r.counts().is(0);
        r.opens(0, 0, 0, 1, 2, 3, 4, 5);
    }

    private static void descriptorsAre0To5() {
        String label = "Every process that is alive has DESCRIPTORS 0 to 5";
        Run r = new Run(label + ": six and no more, each process its own");
        r.allAlive();
        for (int process = 0; process < 4; process++) {
            r.opens(process, 0, 0, 1, 2, 3, 4, 5, NO_ROOM);
        }
        r.counts().is(2410);
        for (int process = 0; process < 4; process++) {
            r.closes(process, 5, 0, 3, 1, 4, 2);
        }
        r.counts().is(10);
        for (int process = 0; process < 4; process++) {
            for (int descriptor : NO_DESCRIPTOR) {
                r = new Run(label + ": too small or too large");
                r.allAlive();
                for (int each = 0; each < 4; each++) {
                    r.opens(each, 0, 0, 1, 2, 3, 4, 5);
                }
                r.closes(process, 2);
                r.everyCallOfDescriptorIsBad(process, descriptor);
            }
        }
    }

    private static void severalDescriptorsMayLeadToTheSameOpening() {
        String label = "Several descriptors, also of several processes, may lead to the same opening";
        Run r = new Run(label + ": all 24 to one opening of a file");
        r.open(0, 0).is(0);
        for (int copy = 1; copy < 6; copy++) {
            r.dup(0, copy - 1).is(copy);
        }
        r.allAlive();
        r.counts().is(110);
        for (int place = 0; place < 8; place++) {
            r.writes(place % 4, (5 * place + 1) % 6, 30 + place);
        }
        r.write(2, 2, 1).is(NO_ROOM);
        r.seek(3, 5, 0).is(0);
        for (int place = 0; place < 8; place++) {
            r.reads(3 - place % 4, place % 6, 30 + place);
        }
        r.read(1, 3).is(END);

        r = new Run(label + ": the ends of a pipe");
        r.pipe(0).is(1);
        r.dup(0, 0).is(2);
        r.dup(0, 1).is(3);
        r.dup(0, 2).is(4);
        r.dup(0, 3).is(5);
        r.allAlive();
        r.counts().is(201);
        r.writes(3, 1, 1);
        r.writes(2, 3, 2);
        r.writes(1, 5, 3);
        r.reads(0, 4, 1);
        r.reads(2, 2, 2);
        r.reads(3, 0, 3, WAIT);
    }

    private static void anOpeningWithoutDescriptorIsGoneAtOnce() {
        String label = "An opening that no descriptor leads to is gone at once";
        for (int last = 0; last < 24; last++) {
            Run r = new Run(label + ": the last of 24 descriptors is " + last);
            r.open(0, 0).is(0);
            for (int copy = 1; copy < 6; copy++) {
                r.dup(0, 0).is(copy);
            }
            r.allAlive();
            for (int place = last + 1; place < last + 24; place++) {
                r.closes(place % 24 / 6, place % 6);
                r.counts().is(110);
            }
            r.closes(last / 6, last % 6);
            r.counts().is(10);
        }

        Run r = new Run(label + ": a writing end");
        r.pipe(0).is(1);
        r.dup(0, 1).is(2);
        r.fork(0).is(1);
        r.closes(0, 1, 2);
        r.closes(1, 1);
        r.reads(0, 0, WAIT);
        r.closes(1, 2);
        r.reads(0, 0, END);
        r.counts().is(101);

        r = new Run(label + ": a reading end");
        r.pipe(0).is(1);
        r.dup(0, 0).is(2);
        r.fork(0).is(1);
        r.closes(0, 0, 2);
        r.closes(1, 0);
        r.writes(0, 1, 4);
        r.closes(1, 2);
        r.write(0, 1, 5).is(BROKEN);
        r.counts().is(101);

        r = new Run(label + ": with its process");
        r.open(0, 0).is(0);
        r.fork(0).is(1);
        r.open(1, 0).is(1);
        r.counts().is(210);
        r.exit(1).is(0);
        r.counts().is(110);
    }

    private static void namesAre0To3() {
        String label = "NAMES are 0 to 3";
        Run r = new Run(label + ": each of them has a file of its own");
        for (int name = 0; name < 4; name++) {
            r.open(0, name).is(name);
            r.writes(0, name, 70 + name);
        }
        r.counts().is(440);
        for (int name = 0; name < 4; name++) {
            r.open(0, name).is(4);
            r.reads(0, 4, 70 + name, END);
            r.closes(0, 4);
        }
        for (int name : NO_NAME) {
            r = new Run(label + ": too small or too large");
            r.opens(0, 0, 0);
            r.opens(0, 3, 1);
            r.fork(0).is(1);
            r.open(0, name).is(BAD);
            r.open(1, name).is(BAD);
            r.unlink(name).is(BAD);
            for (int other = 0; other < 4; other++) {
                r.link(name, other).is(BAD);
                r.link(other, name).is(BAD);
            }
            r.link(name, name).is(BAD);
        }
    }

    private static void allNamesAreFreeAtTheStart() {
        Run r = new Run("all [names] are free at the start");
        for (int name = 0; name < 4; name++) {
            r.unlink(name).is(BAD);
            for (int to = 0; to < 4; to++) {
                r.link(name, to).is(BAD);
            }
        }
        r.counts().is(0);
        r.open(0, 2).is(0);
        for (int to : new int[] {0, 1, 3}) {
            r.link(2, to).is(0);
        }
    }

    private static void aFileHas0To8Bytes() {
        String label = "A file has a row of 0 to 8 bytes";
        for (int length = 0; length <= 8; length++) {
            Run r = new Run(label + ": " + length + " of them");
            r.open(0, 0).is(0);
            r.writes(0, 0, bytes(90, length));
            r.open(0, 0).is(1);
            r.reads(0, 1, bytes(90, length));
            r.read(0, 1).is(END);
            r.seek(0, 1, length).is(0);
            r.seek(0, 1, length + 1).is(BAD);
        }
        Run r = new Run(label + ": not 9");
        r.open(0, 0).is(0);
        r.open(0, 1).is(1);
        r.writes(0, 1, bytes(10, 8));
        r.writes(0, 0, bytes(20, 8));
        r.write(0, 0, 99).is(NO_ROOM);
        r.seek(0, 1, 0).is(0);
        r.reads(0, 1, bytes(10, 8));
        r.read(0, 1).is(END);
    }

    private static void severalNamesMayLeadToTheSameFile() {
        String label = "Several names may lead to the same file";
        for (int last = 0; last < 4; last++) {
            Run r = new Run(label + ": all four, the last is " + last);
            r.open(0, last).is(0);
            r.writes(0, 0, 5, 6);
            r.closes(0, 0);
            for (int more = 1; more < 4; more++) {
                r.link((last + more - 1) % 4, (last + more) % 4).is(0);
            }
            for (int name = 0; name < 4; name++) {
                r.open(0, name).is(0);
                r.reads(0, 0, 5, 6, END);
                r.counts().is(110);
                r.closes(0, 0);
            }
            for (int more = 1; more < 4; more++) {
                r.unlink((last + more) % 4).is(0);
                r.counts().is(10);
            }
            r.open(0, last).is(0);
            r.reads(0, 0, 5, 6, END);
        }
    }

    private static void aFileWithoutNameAndOpeningIsGoneAtOnce() {
        String label = "A file that no name leads to and that has no opening is gone at once";
        Run r = new Run(label + ": the last opening goes first");
        r.open(0, 1).is(0);
        r.writes(0, 0, 3);
        r.closes(0, 0);
        r.counts().is(10);
        r.unlink(1).is(0);
        r.counts().is(0);
        r.open(0, 1).is(0);
        r.reads(0, 0, END);

        r = new Run(label + ": the last name goes first");
        r.open(0, 1).is(0);
        r.writes(0, 0, 3);
        r.unlink(1).is(0);
        r.counts().is(110);
        r.closes(0, 0);
        r.counts().is(0);
        r.open(0, 1).is(0);
        r.reads(0, 0, END);

        r = new Run(label + ": the last opening goes with its process");
        r.open(0, 1).is(0);
        r.writes(0, 0, 3);
        r.unlink(1).is(0);
        r.fork(0).is(1);
        r.closes(0, 0);
        r.counts().is(110);
        r.exit(1).is(0);
        r.counts().is(0);

        r = new Run(label + ": one of two openings is enough");
        r.open(0, 1).is(0);
        r.open(0, 1).is(1);
        r.writes(0, 0, 3, 4);
        r.unlink(1).is(0);
        r.closes(0, 0);
        r.counts().is(110);
        r.open(0, 1).is(0);
        r.counts().is(220);
        r.writes(0, 0, 8);
        r.reads(0, 1, 3, 4, END);
        r.closes(0, 1);
        r.counts().is(110);

        r = new Run(label + ": one of two names is enough");
        r.open(0, 1).is(0);
        r.writes(0, 0, 3);
        r.link(1, 0).is(0);
        r.closes(0, 0);
        r.unlink(1).is(0);
        r.counts().is(10);
        r.open(0, 1).is(0);
        r.counts().is(120);
        r.writes(0, 0, 8);
        r.open(0, 0).is(1);
        r.reads(0, 1, 3, END);
        r.closes(0, 1);
        r.unlink(0).is(0);
        r.counts().is(110);
    }

    private static void openingsAreOfThreeSorts() {
        String label = "OPENINGS are of three sorts: an opening of a file, which has an OFFSET; "
            + "a READING END of a pipe; a WRITING END of a pipe";
        Run r = new Run(label + ": each does what its sort does, also in a copy and in another process");
        r.open(0, 0).is(0);
        r.pipe(0).is(8 + 2);
        r.dup(0, 0).is(3);
        r.dup(0, 1).is(4);
        r.dup(0, 2).is(5);
        r.fork(0).is(1);
        for (int process = 0; process < 2; process++) {
            for (int first = 0; first < 6; first += 3) {
                r.seek(process, first, 0).is(0);
                r.write(process, first, 40 + first).is(0);
                r.seek(process, first, 0).is(0);
                r.read(process, first).is(40 + first);

                r.write(process, first + 1, 9).is(BAD);
                r.seek(process, first + 1, 0).is(BAD);
                r.read(process, first + 1).is(WAIT);

                r.read(process, first + 2).is(BAD);
                r.seek(process, first + 2, 0).is(BAD);
                r.write(process, first + 2, 50 + first).is(0);

                r.read(process, first + 1).is(50 + first);
            }
        }
        r.counts().is(311);

        r = new Run(label + ": each opening of a file has an offset of its own");
        r.opens(0, 0, 0, 1, 2);
        r.open(0, 1).is(3);
        r.writes(0, 0, bytes(1, 8));
        r.writes(0, 3, bytes(11, 4));
        r.reads(0, 1, 1, 2, 3);
        r.seek(0, 2, 6).is(0);
        r.reads(0, 0, END);
        r.reads(0, 1, 4);
        r.reads(0, 2, 7);
        r.reads(0, 3, END);
        r.writes(0, 1, 91);
        r.writes(0, 2, 92);
        r.write(0, 0, 93).is(NO_ROOM);
        r.writes(0, 3, 94);
        r.reads(0, 1, 6, 7, 92, END);
        r.seek(0, 0, 3).is(0);
        r.reads(0, 0, 4, 91, 6);
        r.seek(0, 3, 3).is(0);
        r.reads(0, 3, 14, 94, END);
    }

    private static void aPipeHolds0To6Bytes() {
        String label = "A PIPE holds a row of 0 to 6 bytes";
        for (int length = 0; length <= 6; length++) {
            Run r = new Run(label + ": " + length + " of them");
            r.pipe(0).is(1);
            r.writes(0, 1, bytes(80, length));
            r.reads(0, 0, bytes(80, length));
            r.read(0, 0).is(WAIT);
        }
        Run r = new Run(label + ": not 7");
        r.pipe(0).is(1);
        r.pipe(0).is(8 * 2 + 3);
        r.writes(0, 3, bytes(10, 6));
        r.writes(0, 1, bytes(20, 6));
        r.write(0, 1, 99).is(WAIT);
        r.write(0, 3, 99).is(WAIT);
        r.reads(0, 2, bytes(10, 6));
        r.read(0, 2).is(WAIT);
        r.reads(0, 0, bytes(20, 6));
        r.read(0, 0).is(WAIT);
    }

    private static void aPipeHasAtMostOneReadingAndOneWritingEnd() {
        Run r = new Run("it has at most one reading end and one writing end");
        r.pipe(0).is(1);
        r.counts().is(201);
        r.dup(0, 0).is(2);
        r.dup(0, 1).is(3);
        r.fork(0).is(1);
        r.counts().is(201);
        r.pipe(0).is(8 * 4 + 5);
        r.counts().is(402);
        r.closes(0, 0, 2);
        r.closes(1, 0, 2);
        r.counts().is(302);
        r.closes(0, 1, 3);
        r.closes(1, 1, 3);
        r.counts().is(201);
    }

    private static void aPipeIsGoneWhenBothEndsAre() {
        String label = "when both are gone it is gone";
        Run r = new Run(label + ": the reading end goes first");
        r.pipe(0).is(1);
        r.writes(0, 1, bytes(1, 6));
        r.closes(0, 0);
        r.counts().is(101);
        r.closes(0, 1);
        r.counts().is(0);
        r.pipe(0).is(1);
        r.reads(0, 0, WAIT);

        r = new Run(label + ": the writing end goes first");
        r.pipe(0).is(1);
        r.writes(0, 1, bytes(1, 6));
        r.closes(0, 1);
        r.counts().is(101);
        r.closes(0, 0);
        r.counts().is(0);
        r.pipe(0).is(1);
        r.reads(0, 0, WAIT);

        r = new Run(label + ": both go with their process");
        r.fork(0).is(1);
        r.pipe(1).is(1);
        r.writes(1, 1, 7);
        r.counts().is(201);
        r.exit(1).is(0);
        r.counts().is(0);

        r = new Run(label + ": the ends are in two processes");
        r.pipe(0).is(1);
        r.fork(0).is(1);
        r.closes(0, 0);
        r.closes(1, 1);
        r.counts().is(201);
        r.exit(0).is(0);
        r.counts().is(101);
        r.reads(1, 0, END);
        r.closes(1, 0);
        r.counts().is(0);
    }

    private static void aProcessThatIsNotAliveIsBad() {
        String label = "A call that names a process that is not alive answers BAD";
        for (int dead = 0; dead < 4; dead++) {
            Run r = new Run(label + ": " + dead + " has died");
            r.open(0, 0).is(0);
            r.pipe(0).is(8 + 2);
            r.writes(0, 0, 1);
            r.writes(0, 2, 2);
            r.allAlive();
            r.exit(dead).is(0);
            r.everyCallOfProcessIsBad(dead);
            r.fork((dead + 1) % 4).is(dead);
            r.read(dead, 1).is(2);
            r.exit((dead + 1) % 4).is(0);
            r.everyCallOfProcessIsBad((dead + 1) % 4);
        }
    }

    private static void aFreeDescriptorIsBad() {
        String label = "a descriptor that is free answers BAD";
        for (int mask = 1; mask < 64; mask += 2) {
            for (int turn = 0; turn < 2; turn++) {
                int free = turn == 0 ? mask : 63 - mask;
                Run r = new Run(label + ": the free ones are " + Integer.toBinaryString(free));
                r.fork(0).is(1);
                r.opens(0, 1, 0, 1, 2, 3, 4, 5);
                r.fillBut(1, 0, free);
                for (int descriptor = 0; descriptor < 6; descriptor++) {
                    if ((free >> descriptor & 1) != 0) {
                        r.everyCallOfDescriptorIsBad(1, descriptor);
                    } else {
                        r.write(1, descriptor, 9).is(0);
                    }
                }
            }
        }
    }

    private static void badComesBeforeNoRoom() {
        String label = "A call that names [what is not there] answers BAD (if not said otherwise)";
        Run r = new Run(label + ": while no descriptor is free");
        r.opens(0, 0, 0, 1, 2, 3, 4, 5);
        for (int name : NO_NAME) {
            r.open(0, name).is(BAD);
        }
        for (int descriptor : NO_DESCRIPTOR) {
            r.dup(0, descriptor).is(BAD);
        }
        r.fork(0).is(1);
        r.exit(0).is(0);
        r.everyCallOfProcessIsBad(0);

        r = new Run(label + ": while all processes are alive");
        r.allAlive();
        for (int process : NO_PROCESS) {
            r.fork(process).is(BAD);
        }
    }

    private static void aRefusedCallChangesNothing() {
        String label = "A refused call changes nothing";
        for (Run r : busyRuns(label)) {
            int[][] due = allAnswersAfter(r.calls);
            for (Call each : allCalls()) {
                if (answersAfter(r.calls, List.of(each))[0] < 0) {
                    dueUnchanged(r.label, r.calls, due, each);
                }
            }
        }
    }

    private static void eachRefusedCallOfALongRunChangesNothing() {
        int[] refused = new int[-END + 1];
        for (int number = 0; number < MIXED_RUNS; number++) {
            Run r = new Run("A refused call changes nothing: mixed run " + number);
            state = 104729L * (number + 1);
            for (int time = 0; time < CALLS_OF_A_MIXED_RUN; time++) {
                Call next = mixedCall(FILLING_METHODS);
                Answer answer = r.make(next.method, next.a, next.b, next.c);
                if (answer.value < END) {
                    answer.is(BAD);
                } else if (answer.value < 0) {
                    answer.changesNothing();
                    refused[-answer.value]++;
                }
            }
        }
        for (int answer = BAD; answer >= END; answer--) {
            if (refused[-answer] == 0) {
                fault("no call of the mixed runs answered " + answer);
            }
        }
    }

    private static List<Run> busyRuns(String label) {
        List<Run> runs = new ArrayList<>();
        runs.add(new Run(label));

        Run r = new Run(label + ": a process without room, a full file, a full pipe");
        r.open(0, 0).is(0);
        r.writes(0, 0, bytes(1, 8));
        r.open(0, 0).is(1);
        r.pipe(0).is(8 * 2 + 3);
        r.writes(0, 3, bytes(11, 6));
        r.open(0, 1).is(4);
        r.writes(0, 4, 21, 22);
        r.dup(0, 4).is(5);
        runs.add(r);

        r = new Run(label + ": lone ends, one descriptor left");
        r.pipe(0).is(1);
        r.writes(0, 1, bytes(1, 6));
        r.closes(0, 0);
        r.pipe(0).is(2);
        r.writes(0, 2, 31);
        r.closes(0, 2);
        r.open(0, 3).is(2);
        r.writes(0, 2, 41, 42, 43);
        r.seek(0, 2, 1).is(0);
        r.unlink(3).is(0);
        r.dup(0, 2).is(3);
        r.open(0, 2).is(4);
        r.link(2, 0).is(0);
        runs.add(r);

        r = new Run(label + ": all alive, with openings in common and of their own");
        r.open(0, 0).is(0);
        r.writes(0, 0, 51, 52);
        r.pipe(0).is(8 + 2);
        r.allAlive();
        r.writes(2, 2, 61);
        r.closes(1, 0, 1);
        r.closes(2, 2);
        r.open(3, 1).is(3);
        r.writes(3, 3, bytes(71, 8));
        r.seek(3, 0, 0).is(0);
        r.opens(3, 2, 4, 5);
        runs.add(r);

        r = new Run(label + ": only process 2 is left");
        r.pipe(0).is(1);
        r.open(0, 0).is(2);
        r.writes(0, 2, 81, 82);
        r.fork(0).is(1);
        r.fork(1).is(2);
        r.exit(0).is(0);
        r.closes(2, 1);
        r.writes(1, 1, 91);
        r.exit(1).is(0);
        r.unlink(0).is(0);
        runs.add(r);
        return runs;
    }

    private static List<Call> allCalls() {
        List<Call> all = new ArrayList<>();
        for (int name = -1; name <= 4; name++) {
            all.add(call("unlink", name));
            for (int other = -1; other <= 4; other++) {
                all.add(call("link", name, other));
            }
        }
        for (int process = -1; process <= 4; process++) {
            all.add(call("pipe", process));
            all.add(call("fork", process));
            all.add(call("exit", process));
            for (int name = -1; name <= 4; name++) {
                all.add(call("open", process, name));
            }
            for (int descriptor = -1; descriptor <= 6; descriptor++) {
                all.add(call("dup", process, descriptor));
                all.add(call("close", process, descriptor));
                all.add(call("write", process, descriptor, 99));
                all.add(call("read", process, descriptor));
                for (int offset : new int[] {-1, 0, 3, 8, 9}) {
                    all.add(call("seek", process, descriptor, offset));
                }
            }
        }
        return all;
    }

    private static void theLeastFreeDescriptor() {
        String label = "\"The least free descriptor\" is the one with the least number among those of the process that are free";
        for (int mask = 0; mask < 64; mask++) {
            for (int process = 0; process < 2; process++) {
                String free = label + ": " + Integer.toBinaryString(mask);
                Run r = new Run(free);
                r.fork(0).is(1);
                r.fillBut(1 - process, 1, 63 - mask);
                r.fillBut(process, 0, mask);
                int opened = least(mask);
                if (opened < 0) {
                    r.open(process, 1).is(NO_ROOM);
                } else {
                    r.open(process, 1).is(opened);
                    r.writes(process, opened, 9);
                }

                r = new Run(free);
                r.fork(0).is(1);
                r.fillBut(1 - process, 1, 63 - mask);
                r.fillBut(process, 0, mask);
                for (int descriptor = 0; descriptor < 6; descriptor++) {
                    if ((mask >> descriptor & 1) == 0 && mask != 0) {
                        r.dup(process, descriptor).is(least(mask));
                        r.closes(process, least(mask));
                    } else if (mask == 0) {
                        r.dup(process, descriptor).is(NO_ROOM);
                    } else {
                        r.dup(process, descriptor).is(BAD);
                    }
                }
            }
        }
    }

    // ---- Promise 1

    private static void aNewObjectIsAsSaidAbove() {
        String label = "DescriptorTable(): As said above";
        int[][] due = allAnswersAfter(List.of());
        for (Run busy : busyRuns(label)) {
            Run r = new Run(label + ": whatever other objects there are");
            for (int look = 0; look < LOOKS.size(); look++) {
                if (!Arrays.equals(answersAfter(List.of(), LOOKS.get(look)), due[look])) {
                    fault(r.label + ": a new object differs from the first in look " + look);
                }
            }
            r.counts().is(0);
            r.fork(1).is(BAD);
            r.exit(0).is(BAD);
            for (int place = 0; place < 24; place++) {
                r.close(place / 6, place % 6).is(BAD);
            }
            for (int name = 0; name < 4; name++) {
                r.unlink(name).is(BAD);
            }
            r.pipe(0).is(1);
            r.writes(0, 1, 7);
            r.open(0, 0).is(2);
            r.counts().is(311);
            int[][] dueOfBusy = allAnswersAfter(busy.calls);
            int[] got = new int[LOOKS.get(0).size()];
            for (int place = 0; place < got.length; place++) {
                got[place] = LOOKS.get(0).get(place).on(busy.x);
            }
            if (!Arrays.equals(got, dueOfBusy[0])) {
                fault(r.label + ": the calls of another object changed it, after " + busy.calls);
            }
            r.reads(0, 0, 7, WAIT);
            r.reads(0, 2, END);
        }
    }

    // ---- Promise 2

    private static void openOfAFreeNameMakesANewFile() {
        String label = "If the name is free, it leads to a new file without bytes";
        for (int name = 0; name < 4; name++) {
            Run r = new Run(label + ": the first file of the name");
            r.open(0, name).is(0);
            r.read(0, 0).is(END);
            r.seek(0, 0, 1).is(BAD);
            r.counts().is(110);

            r = new Run(label + ": the name's earlier file is gone");
            r.open(0, name).is(0);
            r.writes(0, 0, bytes(1, 8));
            r.closes(0, 0);
            r.unlink(name).is(0);
            r.open(0, name).is(0);
            r.read(0, 0).is(END);
            r.seek(0, 0, 1).is(BAD);
            r.counts().is(110);

            r = new Run(label + ": the name's earlier file is still open");
            r.open(0, name).is(0);
            r.writes(0, 0, bytes(1, 8));
            r.unlink(name).is(0);
            r.open(0, name).is(1);
            r.read(0, 1).is(END);
            r.counts().is(220);
            r.writes(0, 1, 60);
            r.seek(0, 0, 0).is(0);
            r.reads(0, 0, bytes(1, 8));

            r = new Run(label + ": the name is not free");
            r.open(0, name).is(0);
            r.writes(0, 0, 4, 5);
            r.open(0, name).is(1);
            r.counts().is(210);
            r.reads(0, 1, 4, 5, END);
        }
    }

    private static void openStartsAtOffset0() {
        String label = "a new opening of the name's file with offset 0";
        for (int offset = 0; offset <= 8; offset++) {
            Run r = new Run(label + ": another opening stands at " + offset);
            r.open(0, 0).is(0);
            r.writes(0, 0, bytes(1, 8));
            r.seek(0, 0, offset).is(0);
            r.open(0, 0).is(1);
            r.reads(0, 1, bytes(1, 8));
            r.reads(0, 0, offset < 8 ? offset + 1 : END);

            r = new Run(label + ": an opening that is gone stood at " + offset);
            r.open(0, 0).is(0);
            r.writes(0, 0, bytes(1, 8));
            r.seek(0, 0, offset).is(0);
            r.closes(0, 0);
            r.open(0, 0).is(0);
            r.reads(0, 0, bytes(1, 8));
            r.reads(0, 0, END);
        }
    }

    private static void openWithoutAFreeDescriptor() {
        String label = "open: NO_ROOM if no descriptor is free";
        Run r = new Run(label);
        r.fork(0).is(1);
        r.opens(1, 0, 0, 1, 2, 3, 4, 5);
        for (int name = 0; name < 4; name++) {
            r.open(1, name).is(NO_ROOM);
        }
        r.counts().is(610);
        r.open(0, 0).is(0);
        for (int descriptor = 0; descriptor < 6; descriptor++) {
            r.closes(1, descriptor);
            r.open(1, 0).is(descriptor);
            r.open(1, 0).is(NO_ROOM);
        }
        r = new Run(label + ": all lead to one opening");
        r.pipe(0).is(1);
        for (int copy = 2; copy < 6; copy++) {
            r.dup(0, 0).is(copy);
        }
        r.open(0, 0).is(NO_ROOM);
        r.counts().is(201);
    }

    // ---- Promise 3

    private static void pipeMakesAPipeWithoutBytes() {
        String label = "Makes a pipe without bytes";
        Run r = new Run(label + ": the first");
        r.pipe(0).is(1);
        r.read(0, 0).is(WAIT);
        for (int length = 1; length <= 6; length++) {
            r = new Run(label + ": after one with " + length);
            r.pipe(0).is(1);
            r.writes(0, 1, bytes(1, length));
            r.closes(0, 0, 1);
            r.pipe(0).is(1);
            r.read(0, 0).is(WAIT);
            r.writes(0, 1, bytes(41, 6));
            r.write(0, 1, 47).is(WAIT);
            r.reads(0, 0, bytes(41, 6));

            r = new Run(label + ": beside one with " + length);
            r.pipe(0).is(1);
            r.writes(0, 1, bytes(1, length));
            r.pipe(0).is(8 * 2 + 3);
            r.read(0, 2).is(WAIT);
            r.writes(0, 3, 9);
            r.reads(0, 0, bytes(1, length));
            r.reads(0, 0, WAIT);
        }
    }

    private static void pipeTakesTheTwoLeastFreeDescriptors() {
        String label = "the least free descriptor leads to its reading end, the next least free one to its writing end";
        for (int mask = 0; mask < 64; mask++) {
            Run r = new Run(label + ": " + Integer.toBinaryString(mask));
            r.fork(0).is(1);
            r.fillBut(0, 1, 63 - mask);
            r.fillBut(1, 0, mask);
            int first = least(mask);
            int second = least(mask & mask - 1);
            if (second < 0) {
                r.pipe(1).is(NO_ROOM);
                continue;
            }
            r.pipe(1).is(8 * first + second);
            r.write(1, first, 5).is(BAD);
            r.read(1, second).is(BAD);
            r.writes(1, second, 5);
            r.reads(1, first, 5, WAIT);
        }
    }

    private static void pipeWithFewerThanTwoFreeDescriptors() {
        String label = "NO_ROOM if fewer than two descriptors are free";
        Run r = new Run(label + ": none");
        r.opens(0, 0, 0, 1, 2, 3, 4, 5);
        r.pipe(0).is(NO_ROOM);
        r.counts().is(610);
        for (int free = 0; free < 6; free++) {
            r = new Run(label + ": " + free + " alone");
            r.fork(0).is(1);
            r.fillBut(0, 0, 1 << free);
            r.pipe(0).is(NO_ROOM);
            r.counts().is(510);
            r.everyCallOfDescriptorIsBad(0, free);
            r.open(0, 0).is(free);
            r.pipe(0).is(NO_ROOM);
            r.pipe(1).is(1);
        }
        r = new Run(label + ": two");
        r.fillBut(0, 0, 0b110000);
        r.pipe(0).is(8 * 4 + 5);
        r.pipe(0).is(NO_ROOM);
        r.counts().is(611);
    }

    // ---- Promise 4

    private static void dupLeadsToTheSameOpening() {
        String label = "The least free descriptor leads to the opening that the descriptor leads to";
        for (int descriptor = 0; descriptor < 6; descriptor++) {
            for (int free = 0; free < 6; free++) {
                if (free == descriptor) {
                    continue;
                }
                Run r = new Run(label + ": " + free + " to that of " + descriptor);
                r.fork(0).is(1);
                r.fillBut(0, 0, 1 << free);
                r.writes(0, descriptor, bytes(1, 8));
                r.seek(0, descriptor, 3).is(0);
                r.dup(0, descriptor).is(free);
                r.counts().is(510);
                r.reads(0, free, 4);
                r.reads(0, descriptor, 5);
                r.writes(0, free, 60);
                r.reads(0, descriptor, 7);
                r.seek(0, descriptor, 8).is(0);
                r.read(0, free).is(END);
                for (int other = 0; other < 6; other++) {
                    if (other != free && other != descriptor) {
                        r.reads(0, other, 1);
                    }
                }
                r.closes(0, descriptor);
                r.counts().is(510);
                r.seek(0, free, 5).is(0);
                r.reads(0, free, 60);
                r.closes(0, free);
                r.counts().is(410);
                r.close(1, free).is(BAD);
            }
        }

        Run r = new Run(label + ": an end of a pipe");
        r.pipe(0).is(1);
        r.dup(0, 1).is(2);
        r.dup(0, 0).is(3);
        r.counts().is(201);
        r.writes(0, 2, 5);
        r.writes(0, 1, 6);
        r.reads(0, 3, 5);
        r.reads(0, 0, 6, WAIT);
        r.closes(0, 1);
        r.reads(0, 3, WAIT);
        r.closes(0, 0);
        r.writes(0, 2, 7);
        r.closes(0, 2);
        r.reads(0, 3, 7, END);
    }

    private static void dupWithoutAFreeDescriptor() {
        String label = "dup: NO_ROOM if none is free";
        Run r = new Run(label);
        r.fork(0).is(1);
        r.open(1, 0).is(0);
        r.pipe(1).is(8 + 2);
        r.opens(1, 1, 3, 4, 5);
        for (int descriptor = 0; descriptor < 6; descriptor++) {
            r.dup(1, descriptor).is(NO_ROOM);
        }
        r.closes(1, 4);
        r.dup(1, 2).is(4);
        r.writes(1, 4, 8);
        r.reads(1, 1, 8, WAIT);
        r.dup(1, 2).is(NO_ROOM);
        r.open(0, 0).is(0);
        r.dup(0, 0).is(1);
    }

    // ---- Promise 5

    private static void closeTwice() {
        String label = "The descriptor becomes free. Answers 0 or BAD";
        for (int descriptor = 0; descriptor < 6; descriptor++) {
            Run r = new Run(label);
            r.opens(0, 0, 0, 1, 2, 3, 4, 5);
            r.fork(0).is(1);
            r.close(0, descriptor).is(0);
            r.close(0, descriptor).is(BAD);
            r.everyCallOfDescriptorIsBad(0, descriptor);
            r.counts().is(610);
            r.writes(1, descriptor, 5);
            r.close(1, descriptor).is(0);
            r.close(1, descriptor).is(BAD);
            r.counts().is(510);
            r.open(0, 0).is(descriptor);
            r.reads(0, descriptor, 5, END);
        }
    }

    // ---- Promise 6

    private static void forkTakesTheLeastThatIsNotAlive() {
        String label = "The process with the least number that is not alive becomes alive";
        for (int dead = 0; dead < 15; dead++) {
            Run r = new Run(label + ": not alive are " + Integer.toBinaryString(dead));
            r.allAlive();
            for (int process = 0; process < 4; process++) {
                if ((dead >> process & 1) != 0) {
                    r.exit(process).is(0);
                }
            }
            int parent = Integer.numberOfTrailingZeros(15 - dead);
            for (int left = dead; left != 0; left &= left - 1) {
                r.fork(parent).is(Integer.numberOfTrailingZeros(left));
            }
            r.fork(parent).is(NO_ROOM);
        }
    }

    private static void forkCopiesEachDescriptor() {
        String label = "each of its descriptors leads to what the same descriptor of the given process leads to, or is free";
        for (int mask = 0; mask < 64; mask++) {
            Run r = new Run(label + ": free are " + Integer.toBinaryString(mask));
            r.fork(0).is(1);
            r.fillBut(1, 1, 63 - mask);
            r.exit(1).is(0);
            r.fillBut(0, 0, mask);
            r.fork(0).is(1);
            r.counts().is(100 * (6 - Integer.bitCount(mask)) + 20);
            for (int descriptor = 0; descriptor < 6; descriptor++) {
                if ((mask >> descriptor & 1) != 0) {
                    r.close(1, descriptor).is(BAD);
                } else {
                    r.writes(1, descriptor, 10 + descriptor);
                    r.reads(0, descriptor, END);
                    r.seek(0, descriptor, 0).is(0);
                    r.reads(1, descriptor, 10 + descriptor, END);
                }
            }
        }

        Run r = new Run(label + ": later changes are each process's own");
        r.open(0, 0).is(0);
        r.fork(0).is(1);
        r.open(0, 1).is(1);
        r.close(1, 1).is(BAD);
        r.closes(1, 0);
        r.writes(0, 0, 1);
        r.open(1, 2).is(0);
        r.writes(1, 0, 2);
        r.seek(0, 0, 0).is(0);
        r.reads(0, 0, 1, END);
    }

    private static void forkWhenAllAreAlive() {
        String label = "NO_ROOM if all are alive";
        Run r = new Run(label);
        r.open(0, 0).is(0);
        r.fork(0).is(1);
        r.fork(1).is(2);
        r.fork(2).is(3);
        r.closes(1, 0);
        for (int process = 0; process < 4; process++) {
            r.fork(process).is(NO_ROOM);
        }
        r.exit(0).is(0);
        r.fork(3).is(0);
        r.fork(3).is(NO_ROOM);
    }

    // ---- Promise 7

    private static void exitFreesAllDescriptors() {
        String label = "All descriptors of the process become free, and it is alive no longer";
        Run r = new Run(label);
        r.fork(0).is(1);
        r.opens(1, 0, 0, 1, 2);
        r.pipe(1).is(8 * 3 + 4);
        r.open(1, 1).is(5);
        r.counts().is(621);
        r.exit(1).is(0);
        r.counts().is(20);
        r.everyCallOfProcessIsBad(1);
        r.fork(0).is(1);
        r.opens(1, 0, 0, 1, 2, 3, 4, 5);

        r = new Run(label + ": each end of a pipe");
        r.pipe(0).is(1);
        r.pipe(0).is(8 * 2 + 3);
        r.fork(0).is(1);
        r.closes(0, 1, 2);
        r.reads(0, 0, WAIT);
        r.writes(0, 3, 6);
        r.exit(1).is(0);
        r.read(0, 0).is(END);
        r.write(0, 3, 6).is(BROKEN);
        r.counts().is(202);
    }

    private static void exitOfTheLastProcess() {
        String label = "exit: BAD (also if no other process is alive)";
        for (int last = 0; last < 4; last++) {
            Run r = new Run(label + ": the last is " + last);
            r.open(0, 0).is(0);
            r.writes(0, 0, 1);
            r.exit(0).is(BAD);
            r.allAlive();
            for (int process = 0; process < 4; process++) {
                if (process != last) {
                    r.exit(process).is(0);
                }
            }
            r.exit(last).is(BAD);
            r.counts().is(110);
            r.writes(last, 0, 2);
            int child = last == 0 ? 1 : 0;
            r.fork(last).is(child);
            r.exit(last).is(0);
            r.exit(child).is(BAD);
        }
    }

    // ---- Promise 8

    private static void writeTakesTheLowBits() {
        String label = "Writes value & 255";
        int[] values = {0, 1, 127, 128, 255, 256, 257, 511, 512, 65535, 65536, -1, -2, -128, -129, -255, -256, -257,
            MAX, MIN, MIN + 200, 0x12345678};
        for (int value : values) {
            Run r = new Run(label + ": " + value);
            r.open(0, 0).is(0);
            r.write(0, 0, value).is(0);
            r.seek(0, 0, 0).is(0);
            r.reads(0, 0, value & 255, END);
            r.seek(0, 0, 0).is(0);
            r.write(0, 0, ~value).is(0);
            r.seek(0, 0, 0).is(0);
            r.reads(0, 0, 255 - (value & 255), END);
            r.pipe(0).is(8 + 2);
            r.write(0, 2, value).is(0);
            r.reads(0, 1, value & 255, WAIT);
        }
    }

    private static void writeGoesOnBy1() {
        String label = "the byte at its offset becomes the value and the offset goes on by 1";
        for (int offset = 0; offset < 8; offset++) {
            for (int number = 1; number <= 8 - offset; number++) {
                Run r = new Run(label + ": " + number + " bytes from offset " + offset);
                r.open(0, 0).is(0);
                r.open(0, 0).is(1);
                r.open(0, 1).is(2);
                r.writes(0, 0, bytes(1, 8));
                r.writes(0, 2, bytes(21, 8));
                r.seek(0, 0, offset).is(0);
                r.writes(0, 0, bytes(101, number));
                r.reads(0, 1, bytes(1, offset));
                r.reads(0, 1, bytes(101, number));
                r.reads(0, 1, bytes(offset + number + 1, 8 - offset - number));
                r.read(0, 1).is(END);
                r.reads(0, 0, offset + number < 8 ? offset + number + 1 : END);
                r.seek(0, 2, 0).is(0);
                r.reads(0, 2, bytes(21, 8));
            }
        }
    }

    private static void writePutsTheByteAtTheEnd() {
        String label = "A writing end: the byte is put at the end of the pipe";
        for (int taken = 0; taken <= 6; taken++) {
            for (int left = 0; left < 6; left++) {
                Run r = new Run(label + ": after " + left + " others, " + taken + " are taken out already");
                r.pipe(0).is(1);
                r.writes(0, 1, bytes(1, taken));
                r.reads(0, 0, bytes(1, taken));
                r.writes(0, 1, bytes(11, left));
                r.write(0, 1, 99).is(0);
                r.reads(0, 0, bytes(11, left));
                r.reads(0, 0, 99, WAIT);
            }
        }
    }

    private static void writeAtTheEndOfAFile() {
        String label = "if the offset is the number of bytes, the file has one byte more then";
        for (int length = 0; length < 8; length++) {
            Run r = new Run(label + ": " + length + " bytes");
            r.open(0, 0).is(0);
            r.writes(0, 0, bytes(1, length));
            r.seek(0, 0, length + 1).is(BAD);
            r.writes(0, 0, 99);
            r.seek(0, 0, length + 2).is(BAD);
            r.read(0, 0).is(END);
            r.seek(0, 0, length + 1).is(0);
            r.seek(0, 0, 0).is(0);
            r.reads(0, 0, bytes(1, length));
            r.reads(0, 0, 99, END);
        }
        for (int offset = 0; offset < 8; offset++) {
            Run r = new Run(label + ": not if the offset is below it, " + offset);
            r.open(0, 0).is(0);
            r.writes(0, 0, bytes(1, 8));
            r.seek(0, 0, offset).is(0);
            r.writes(0, 0, 99);
            r.reads(0, 0, bytes(offset + 2, 7 - offset));
            r.read(0, 0).is(END);
            r.seek(0, 0, 0).is(0);
            r.reads(0, 0, bytes(1, offset));
            r.reads(0, 0, 99);
        }
        for (int length = 1; length < 8; length++) {
            Run r = new Run(label + ": not if the offset is 0 of " + length);
            r.open(0, 0).is(0);
            r.writes(0, 0, bytes(1, length));
            r.open(0, 0).is(1);
            r.writes(0, 1, 99);
            r.seek(0, 1, length + 1).is(BAD);
            r.read(0, 0).is(END);
        }
    }

    private static void writeWhenTheOffsetIs8() {
        String label = "NO_ROOM if the offset is 8";
        Run r = new Run(label);
        r.open(0, 0).is(0);
        r.writes(0, 0, bytes(1, 7));
        r.write(0, 0, 8).is(0);
        r.write(0, 0, 9).is(NO_ROOM);
        r.write(0, 0, 9).is(NO_ROOM);
        r.seek(0, 0, 0).is(0);
        r.reads(0, 0, bytes(1, 8));
        r.write(0, 0, 9).is(NO_ROOM);
        r.seek(0, 0, 8).is(0);
        r.write(0, 0, 9).is(NO_ROOM);

        r = new Run(label + ": and not merely the file full");
        r.open(0, 0).is(0);
        r.open(0, 0).is(1);
        r.writes(0, 0, bytes(1, 8));
        r.writes(0, 1, bytes(21, 8));
        r.write(0, 1, 9).is(NO_ROOM);
        r.write(0, 0, 9).is(NO_ROOM);
        r.seek(0, 0, 0).is(0);
        r.reads(0, 0, bytes(21, 8));

        r = new Run(label + ": and the next file is not touched");
        for (int name = 0; name < 4; name++) {
            r.open(0, name).is(name);
            r.writes(0, name, bytes(10 * name, 8));
        }
        for (int name = 0; name < 4; name++) {
            r.write(0, name, 99).is(NO_ROOM);
        }
        for (int name = 0; name < 4; name++) {
            r.seek(0, name, 0).is(0);
            r.reads(0, name, bytes(10 * name, 8));
            r.reads(0, name, END);
        }
    }

    private static void writeWithoutAReadingEnd() {
        String label = "BROKEN if the pipe has no reading end";
        for (int length = 0; length <= 6; length++) {
            Run r = new Run(label + ": it holds " + length);
            r.pipe(0).is(1);
            r.writes(0, 1, bytes(1, length));
            r.closes(0, 0);
            r.write(0, 1, 9).is(BROKEN);
            r.write(0, 1, 9).is(BROKEN);
        }
        Run r = new Run(label + ": a copy is enough");
        r.pipe(0).is(1);
        r.dup(0, 0).is(2);
        r.closes(0, 0);
        r.write(0, 1, 1).is(0);
        r.fork(0).is(1);
        r.closes(0, 2);
        r.write(0, 1, 2).is(0);
        r.exit(1).is(0);
        r.write(0, 1, 3).is(BROKEN);

        r = new Run(label + ": the reading end of another pipe does not help");
        r.pipe(0).is(1);
        r.pipe(0).is(8 * 2 + 3);
        r.closes(0, 0);
        r.write(0, 1, 9).is(BROKEN);
        r.write(0, 3, 9).is(0);
    }

    private static void writeWhenThePipeHolds6() {
        String label = "WAIT if it holds 6 bytes";
        for (int before = 0; before <= 13; before++) {
            Run r = new Run(label + ": after " + before + " that were taken out");
            r.pipe(0).is(1);
            for (int time = 0; time < before; time++) {
                r.writes(0, 1, time);
                r.reads(0, 0, time);
            }
            r.writes(0, 1, bytes(100, 5));
            r.write(0, 1, 105).is(0);
            r.write(0, 1, 106).is(WAIT);
            r.reads(0, 0, 100);
            r.write(0, 1, 107).is(0);
            r.write(0, 1, 108).is(WAIT);
            r.reads(0, 0, 101, 102, 103, 104, 105, 107, WAIT);
        }
    }

    private static void writeToAReadingEnd() {
        String label = "write: A reading end: BAD";
        Run r = new Run(label);
        r.pipe(0).is(1);
        r.write(0, 0, 9).is(BAD);
        r.writes(0, 1, bytes(1, 6));
        r.write(0, 0, 9).is(BAD);
        r.closes(0, 1);
        r.write(0, 0, 9).is(BAD);
        r.reads(0, 0, bytes(1, 6));
        r.write(0, 0, 9).is(BAD);
        r.reads(0, 0, END);
    }

    // ---- Promise 9

    private static void readGoesOnBy1() {
        String label = "An opening of a file: the byte at its offset, which goes on by 1";
        for (int offset = 0; offset < 8; offset++) {
            for (int number = 1; number <= 8 - offset; number++) {
                Run r = new Run(label + ": " + number + " bytes from offset " + offset);
                r.open(0, 0).is(0);
                r.open(0, 0).is(1);
                r.writes(0, 0, bytes(1, 8));
                r.seek(0, 1, offset).is(0);
                r.reads(0, 1, bytes(offset + 1, number));
                if (offset + number < 8) {
                    r.writes(0, 1, 99);
                    r.seek(0, 0, offset + number).is(0);
                    r.reads(0, 0, 99);
                } else {
                    r.write(0, 1, 99).is(NO_ROOM);
                }
                r.seek(0, 0, 0).is(0);
                r.reads(0, 0, bytes(1, offset + number));
            }
        }
    }

    private static void readAnswersTheByte() {
        String label = "Otherwise answers the byte";
        Run ofFile = new Run(label + ": of a file");
        Run ofPipe = new Run(label + ": of a pipe");
        for (int value = 0; value < 256; value++) {
            if (value % 8 == 0) {
                ofFile = new Run(ofFile.label);
                ofFile.open(0, 0).is(0);
                ofFile.open(0, 0).is(1);
            }
            ofFile.write(0, 0, value).is(0);
            ofFile.read(0, 1).is(value);
            if (value % 128 == 0) {
                ofPipe = new Run(ofPipe.label);
                ofPipe.pipe(0).is(1);
            }
            ofPipe.write(0, 1, value).is(0);
            ofPipe.read(0, 0).is(value);
        }
    }

    private static void readAtTheEndOfAFile() {
        String label = "END if the offset is the number of bytes";
        for (int length = 0; length <= 8; length++) {
            Run r = new Run(label + ": " + length + " bytes");
            r.open(0, 0).is(0);
            r.open(0, 0).is(1);
            r.writes(0, 0, bytes(1, length));
            r.read(0, 0).is(END);
            r.reads(0, 1, bytes(1, length));
            r.read(0, 1).is(END);
            r.read(0, 1).is(END);
            if (length < 8) {
                r.writes(0, 0, 99);
                r.reads(0, 1, 99);
                r.read(0, 1).is(END);
            }
        }
        Run r = new Run(label + ": a byte 0 is not the end");
        r.open(0, 0).is(0);
        r.writes(0, 0, 0, 0);
        r.seek(0, 0, 0).is(0);
        r.reads(0, 0, 0, 0, END);

        r = new Run(label + ": the rest of a file that is gone is not read");
        r.open(0, 0).is(0);
        r.writes(0, 0, bytes(1, 8));
        r.unlink(0).is(0);
        r.closes(0, 0);
        r.open(0, 0).is(0);
        r.writes(0, 0, 50, 51);
        r.read(0, 0).is(END);
    }

    private static void readTakesTheOldestByte() {
        String label = "takes the oldest byte out of the pipe";
        for (int held = 1; held <= 6; held++) {
            Run r = new Run(label + ": of " + held);
            r.pipe(0).is(1);
            r.writes(0, 1, bytes(0, held));
            for (int time = 0; time < 40; time++) {
                r.reads(0, 0, time);
                r.writes(0, 1, time + held);
            }
            r.reads(0, 0, bytes(40, held));
            r.read(0, 0).is(WAIT);
        }
    }

    private static void readOfAnEmptyPipe() {
        String label = "if it holds none, WAIT if the pipe has a writing end, else END";
        for (int length = 0; length <= 6; length++) {
            Run r = new Run(label + ": " + length + " are read first");
            r.pipe(0).is(1);
            r.writes(0, 1, bytes(1, length));
            r.reads(0, 0, bytes(1, length));
            r.read(0, 0).is(WAIT);
            r.closes(0, 1);
            r.read(0, 0).is(END);

            r = new Run(label + ": " + length + " outlive the writing end");
            r.pipe(0).is(1);
            r.writes(0, 1, bytes(1, length));
            r.closes(0, 1);
            r.reads(0, 0, bytes(1, length));
            r.read(0, 0).is(END);
            r.read(0, 0).is(END);
        }
        Run r = new Run(label + ": a copy of the writing end is enough");
        r.pipe(0).is(1);
        r.dup(0, 1).is(2);
        r.closes(0, 1);
        r.read(0, 0).is(WAIT);
        r.fork(0).is(1);
        r.closes(0, 2);
        r.read(0, 0).is(WAIT);
        r.exit(1).is(0);
        r.read(0, 0).is(END);

        r = new Run(label + ": the writing end of another pipe does not help");
        r.pipe(0).is(1);
        r.pipe(0).is(8 * 2 + 3);
        r.closes(0, 1);
        r.read(0, 0).is(END);
        r.read(0, 2).is(WAIT);
    }

    private static void readFromAWritingEnd() {
        String label = "read: A writing end: BAD";
        Run r = new Run(label);
        r.pipe(0).is(1);
        r.read(0, 1).is(BAD);
        r.writes(0, 1, bytes(1, 6));
        r.read(0, 1).is(BAD);
        r.closes(0, 0);
        r.read(0, 1).is(BAD);
        r = new Run(label + ": empty, without a reading end");
        r.pipe(0).is(1);
        r.closes(0, 0);
        r.read(0, 1).is(BAD);
    }

    // ---- Promise 10

    private static void seekSetsTheOffset() {
        String label = "Sets the offset of the opening of a file. Answers 0";
        for (int from = 0; from <= 8; from++) {
            for (int to = 0; to <= 8; to++) {
                Run r = new Run(label + ": from " + from + " to " + to);
                r.opens(0, 0, 0, 1);
                r.dup(0, 0).is(2);
                r.open(0, 1).is(3);
                r.writes(0, 3, 50, 51);
                r.writes(0, 0, bytes(1, 8));
                r.seek(0, 1, 4).is(0);
                r.seek(0, 0, from).is(0);
                r.seek(0, 0, to).is(0);
                r.counts().is(320);
                r.reads(0, 2, to < 8 ? to + 1 : END);
                r.reads(0, 1, 5);
                r.reads(0, 3, END);
                r.seek(0, 2, to).is(0);
                r.write(0, 0, 99).is(to < 8 ? 0 : NO_ROOM);
                r.seek(0, 1, 0).is(0);
                r.reads(0, 1, bytes(1, to));
                r.reads(0, 1, to < 8 ? 99 : END);
            }
        }
    }

    private static void seekFrom0ToTheNumberOfBytes() {
        String label = "BAD (also if offset is not from 0 to the file's number of bytes)";
        for (int length = 0; length <= 8; length++) {
            Run r = new Run(label + ": " + length + " bytes");
            r.open(0, 0).is(0);
            r.writes(0, 0, bytes(1, length));
            for (int offset = 0; offset <= length; offset++) {
                r.seek(0, 0, offset).is(0);
                r.seek(0, 0, -1).is(BAD);
                r.seek(0, 0, length + 1).is(BAD);
                r.reads(0, 0, offset < length ? offset + 1 : END);
            }
            for (int offset : new int[] {-2, -8, 9, 10, 16, 256, 65536, 1 << 30, MAX, MIN}) {
                r.seek(0, 0, offset).is(BAD);
            }
        }
        Run r = new Run(label + ": the file and not the opening has them");
        r.open(0, 0).is(0);
        r.open(0, 0).is(1);
        r.open(0, 1).is(2);
        r.writes(0, 0, 1, 2, 3);
        r.seek(0, 1, 3).is(0);
        r.seek(0, 1, 4).is(BAD);
        r.seek(0, 2, 1).is(BAD);
        r.writes(0, 1, 4);
        r.seek(0, 0, 4).is(0);
        r.read(0, 0).is(END);
    }

    private static void seekOfAnEndOfAPipe() {
        String label = "seek: BAD (also if it is an end of a pipe)";
        for (int offset = -1; offset <= 9; offset++) {
            Run r = new Run(label);
            r.open(0, 0).is(0);
            r.writes(0, 0, bytes(1, 8));
            r.pipe(0).is(8 + 2);
            r.seek(0, 1, offset).is(BAD);
            r.seek(0, 2, offset).is(BAD);
            r.writes(0, 2, bytes(1, 6));
            r.seek(0, 1, offset).is(BAD);
            r.seek(0, 2, offset).is(BAD);
            r.closes(0, 2);
            r.seek(0, 1, offset).is(BAD);
        }
    }

    // ---- Promise 11

    private static void linkLeadsToTheSameFile() {
        String label = "The free name to leads to the file that the name from leads to";
        for (int from = 0; from < 4; from++) {
            for (int to = 0; to < 4; to++) {
                if (from == to) {
                    continue;
                }
                Run r = new Run(label + ": from " + from + " to " + to);
                r.open(0, from).is(0);
                r.writes(0, 0, 7);
                r.link(from, to).is(0);
                r.counts().is(110);
                r.open(0, to).is(1);
                r.reads(0, 1, 7, END);
                r.writes(0, 1, 8);
                r.reads(0, 0, 8, END);
                r.unlink(from).is(0);
                r.counts().is(210);
                r.open(0, from).is(2);
                r.reads(0, 2, END);
                r.counts().is(320);
                r.open(0, to).is(3);
                r.reads(0, 3, 7, 8, END);
                r.closes(0, 0, 1, 3);
                r.counts().is(120);
                r.unlink(to).is(0);
                r.counts().is(110);
                r.link(from, to).is(0);
                r.open(0, to).is(0);
                r.reads(0, 0, END);
                r.counts().is(210);
            }
        }
    }

    private static void linkFromAFreeNameOrToOneThatIsNot() {
        String label = "BAD (also if from is free or to is not)";
        for (int taken = 0; taken < 16; taken++) {
            for (int from = 0; from < 4; from++) {
                for (int to = 0; to < 4; to++) {
                    Run r = new Run(label + ": taken are " + Integer.toBinaryString(taken));
                    for (int name = 0; name < 4; name++) {
                        if ((taken >> name & 1) != 0) {
                            r.open(0, name).is(0);
                            r.writes(0, 0, 60 + name);
                            r.closes(0, 0);
                        }
                    }
                    if ((taken >> from & 1) == 0 || (taken >> to & 1) != 0) {
                        r.link(from, to).is(BAD);
                        continue;
                    }
                    r.link(from, to).is(0);
                    r.counts().is(10 * Integer.bitCount(taken));
                    r.link(from, to).is(BAD);
                    r.link(to, from).is(BAD);
                    r.open(0, to).is(0);
                    r.reads(0, 0, 60 + from, END);
                }
            }
        }
        Run r = new Run(label + ": a file that is open but has lost its name");
        r.open(0, 0).is(0);
        r.unlink(0).is(0);
        r.link(0, 1).is(BAD);
    }

    // ---- Promise 12

    private static void unlinkFreesTheName() {
        String label = "The name becomes free. Answers 0";
        for (int name = 0; name < 4; name++) {
            Run r = new Run(label + ": " + name);
            for (int each = 0; each < 4; each++) {
                r.open(0, each).is(each);
                r.writes(0, each, 30 + each);
            }
            r.unlink(name).is(0);
            r.counts().is(440);
            int other = (name + 1) % 4;
            r.link(name, other).is(BAD);
            r.link(other, name).is(0);
            r.unlink(name).is(0);
            r.counts().is(440);
            r.open(0, name).is(4);
            r.reads(0, 4, END);
            r.counts().is(550);
            for (int each = 0; each < 4; each++) {
                r.seek(0, each, 0).is(0);
                r.reads(0, each, 30 + each, END);
                r.open(0, each).is(5);
                r.reads(0, 5, each == name ? END : 30 + each);
                r.closes(0, 5);
            }
            r.closes(0, name);
            r.counts().is(440);
        }
    }

    private static void unlinkOfAFreeName() {
        String label = "unlink: BAD if it is free";
        for (int name = 0; name < 4; name++) {
            Run r = new Run(label);
            r.unlink(name).is(BAD);
            r.open(0, name).is(0);
            r.unlink(name).is(0);
            r.unlink(name).is(BAD);
            r.counts().is(110);
            int other = (name + 1) % 4;
            r.open(0, other).is(1);
            r.link(other, name).is(0);
            r.unlink(name).is(0);
            r.unlink(name).is(BAD);
            r.unlink(other).is(0);
            r.unlink(other).is(BAD);
        }
    }

    // ---- Promise 13

    private static void countsFromNothingToTheMost() {
        String label = "100 times the number of openings, plus 10 times the number of files, plus the number of pipes";
        Run r = new Run(label + ": nothing");
        r.counts().is(0);
        r.counts().is(0);

        r = new Run(label + ": 24 openings of 24 files without name, and three files beside them");
        r.allAlive();
        for (int place = 0; place < 23; place++) {
            r.open(place / 6, 0).is(place % 6);
            r.writes(place / 6, place % 6, 100 + place);
            r.unlink(0).is(0);
            r.counts().is(110 * (place + 1));
        }
        for (int name = 1; name < 4; name++) {
            r.open(3, name).is(5);
            r.writes(3, 5, 200 + name);
            r.closes(3, 5);
            r.counts().is(2300 + 10 * (23 + name));
        }
        r.open(3, 0).is(5);
        r.writes(3, 5, 123);
        r.counts().is(2400 + 270);
        r.unlink(0).is(0);
        r.counts().is(2400 + 270);
        for (int process = 0; process < 4; process++) {
            r.open(process, 0).is(NO_ROOM);
        }
        for (int place = 0; place < 24; place++) {
            r.seek(place / 6, place % 6, 0).is(0);
            r.reads(place / 6, place % 6, 100 + place, END);
        }
        for (int name = 1; name < 4; name++) {
            r.closes(3, 5);
            r.open(3, name).is(5);
            r.reads(3, 5, 200 + name, END);
            r.counts().is(2400 + 260);
        }

        r = new Run(label + ": 24 openings of 20 pipes");
        r.allAlive();
        for (int process = 0; process < 4; process++) {
            for (int time = 0; time < 5; time++) {
                r.pipe(process).is(time + 1);
                r.writes(process, time + 1, 50 * process + time);
                r.counts().is(600 * process + 5 * process + 100 * time + 200 + time + 1);
                if (time < 4) {
                    r.closes(process, 0);
                }
            }
            r.pipe(process).is(NO_ROOM);
        }
        r.counts().is(2400 + 20);
        for (int process = 0; process < 4; process++) {
            for (int descriptor = 1; descriptor < 5; descriptor++) {
                r.write(process, descriptor, 9).is(BROKEN);
            }
            r.reads(process, 0, 50 * process + 4, WAIT);
        }

        r = new Run(label + ": one of each");
        r.open(0, 0).is(0);
        r.pipe(0).is(8 + 2);
        r.counts().is(311);
        r.closes(0, 0);
        r.counts().is(211);
        r.closes(0, 1);
        r.counts().is(111);
        r.closes(0, 2);
        r.counts().is(10);
    }

    private static void countsChangesNothing() {
        for (Run r : busyRuns("counts changes nothing")) {
            dueUnchanged(r.label, r.calls, allAnswersAfter(r.calls), call("counts"));
        }
    }

    // ---- Promise 14

    private static void brokenComesBeforeWait() {
        String label = "write to a writing end tests BROKEN before WAIT";
        Run r = new Run(label);
        r.pipe(0).is(1);
        r.writes(0, 1, bytes(1, 6));
        r.write(0, 1, 9).is(WAIT);
        r.closes(0, 0);
        r.write(0, 1, 9).is(BROKEN);

        r = new Run(label + ": in two processes");
        r.pipe(0).is(1);
        r.fork(0).is(1);
        r.closes(0, 0);
        r.writes(0, 1, bytes(1, 6));
        r.write(0, 1, 9).is(WAIT);
        r.exit(1).is(0);
        r.write(0, 1, 9).is(BROKEN);
    }

    private static void openWithoutRoomMakesNoFile() {
        String label = "open that answers NO_ROOM makes no file: the name stays as it was";
        for (int name = 0; name < 4; name++) {
            int other = (name + 1) % 4;
            Run r = new Run(label + ": free");
            r.pipe(0).is(1);
            r.pipe(0).is(8 * 2 + 3);
            r.pipe(0).is(8 * 4 + 5);
            r.open(0, name).is(NO_ROOM);
            r.counts().is(603);
            r.unlink(name).is(BAD);
            r.link(name, other).is(BAD);
            r.closes(0, 3);
            r.open(0, name).is(3);
            r.counts().is(613);
            r.reads(0, 3, END);

            r = new Run(label + ": leading to a file");
            r.open(0, name).is(0);
            r.writes(0, 0, 7, 8);
            r.opens(0, other, 1, 2, 3, 4, 5);
            r.open(0, name).is(NO_ROOM);
            r.counts().is(620);
            r.closes(0, 4);
            r.open(0, name).is(4);
            r.reads(0, 4, 7, 8, END);
        }
    }

    private static void terms() {
        processesAre0To3();
        atTheStartOnlyProcess0IsAlive();
        atTheStartAllDescriptorsAreFree();
        descriptorsAre0To5();
        severalDescriptorsMayLeadToTheSameOpening();
        anOpeningWithoutDescriptorIsGoneAtOnce();
        namesAre0To3();
        allNamesAreFreeAtTheStart();
        aFileHas0To8Bytes();
        severalNamesMayLeadToTheSameFile();
        aFileWithoutNameAndOpeningIsGoneAtOnce();
        openingsAreOfThreeSorts();
        aPipeHolds0To6Bytes();
        aPipeHasAtMostOneReadingAndOneWritingEnd();
        aPipeIsGoneWhenBothEndsAre();
        aProcessThatIsNotAliveIsBad();
        aFreeDescriptorIsBad();
        badComesBeforeNoRoom();
        aRefusedCallChangesNothing();
        eachRefusedCallOfALongRunChangesNothing();
        theLeastFreeDescriptor();
    }

    private static void promises() {
        aNewObjectIsAsSaidAbove();
        openOfAFreeNameMakesANewFile();
        openStartsAtOffset0();
        openWithoutAFreeDescriptor();
        pipeMakesAPipeWithoutBytes();
        pipeTakesTheTwoLeastFreeDescriptors();
        pipeWithFewerThanTwoFreeDescriptors();
        dupLeadsToTheSameOpening();
        dupWithoutAFreeDescriptor();
        closeTwice();
        forkTakesTheLeastThatIsNotAlive();
        forkCopiesEachDescriptor();
        forkWhenAllAreAlive();
        exitFreesAllDescriptors();
        exitOfTheLastProcess();
        writeTakesTheLowBits();
        writeGoesOnBy1();
        writeAtTheEndOfAFile();
        writeWhenTheOffsetIs8();
        writePutsTheByteAtTheEnd();
        writeWithoutAReadingEnd();
        writeWhenThePipeHolds6();
        writeToAReadingEnd();
        readGoesOnBy1();
        readAnswersTheByte();
        readAtTheEndOfAFile();
        readTakesTheOldestByte();
        readOfAnEmptyPipe();
        readFromAWritingEnd();
        seekSetsTheOffset();
        seekFrom0ToTheNumberOfBytes();
        seekOfAnEndOfAPipe();
        linkLeadsToTheSameFile();
        linkFromAFreeNameOrToOneThatIsNot();
        unlinkFreesTheName();
        unlinkOfAFreeName();
        countsFromNothingToTheMost();
        countsChangesNothing();
        brokenComesBeforeWait();
        openWithoutRoomMakesNoFile();
    }

    public static void main(String[] args) {
        makeLooks();
        atMost512Calls();
        atMost512CallsOfOneMethod();
        terms();
        promises();
        System.out.println(wrong == 0 ? "all answers are as due" : wrong + " answers are not as due");
        if (wrong != 0) {
            System.exit(1);
        }
    }
}
