import java.util.Arrays;

/**
 * Each sentence of 'BLOCKS' that names an edge, with a test of its own. A
 * standard block's cells are set to edges, and a run is held against what the
 * sentences say, written down here once more in long numbers.
 */
public final class BlockEdgeTests {
    private static final int LEAST = Integer.MIN_VALUE;
    private static final int MOST = Integer.MAX_VALUE;
    private static final int TICKS = 5;
    private static final int[] TRUTHS = {0, 1, 9};
    private static final int[] COUNTS = {LEAST, -32769, -32768, -32767, -1, 0, 1, 2, 32766, 32767, 32768, MOST};

    public static void main(String[] args) {
        wrappingNow();
        noBounds();
        leastTime();
        onTimers();
        offTimers();
        pulses();
        upCounters();
        downCounters();
        triggers();
        latches();
        lastTime();
        Checks.finish("BlockEdgeTests");
    }

    /** One instance, which has the cells from 960 on. */
    private static CodeMaker made(String type) {
        CodeMaker maker = new CodeMaker();
        Checks.feed(maker, Checks.program("t : " + type + ";", "t();"));
        Checks.due("make", maker.make(), 0);
        return maker;
    }

    private static int[] run(CodeMaker maker, int ticks, int... cells) {
        for (int i = 0; i < cells.length; i++) {
            maker.set(960 + i, cells[i]);
        }
        Checks.due("steps", maker.run(ticks), 1);
        int[] are = new int[cells.length];
        for (int i = 0; i < cells.length; i++) {
            are[i] = maker.get(960 + i);
        }
        return are;
    }

    private static String told(int[] cells) {
        return Arrays.toString(cells);
    }

    private static void asks(CodeMaker maker, int ticks, int[] before, int[] want) {
        Checks.due("cells that were " + told(before), told(run(maker, ticks, before)), told(want));
    }

    private static void wrappingNow() {
        Checks.says("NOW is the sum of all ticks, as a number of 32 bits with sign that wraps,");
        // more calls than are promised are needed for that
        CodeMaker maker = made("TON");
        long sum = 0;
        for (int i = 0; i < 43000; i++) {
            maker.run(100000);
            sum += 100000;
            if (i % 1000 == 0 || sum > MOST - 100000L && sum < MOST + 200000L || sum > 4294767296L) {
                Checks.due("NOW of " + sum, maker.count(6), (int) sum);
                Checks.due("L", maker.get(965), (int) sum);
            }
        }
    }

    private static void noBounds() {
        Checks.says("d is NOW - L, and ET + d, both without a bound (of what becomes ET the lowest 32 bits count);");
        // IN, PT, Q, ET, M, L
        asks(made("TON"), 5, new int[] {1, MOST, 0, 0, 1, LEAST}, new int[] {1, MOST, 1, MOST, 1, 5});
        asks(made("TON"), 5, new int[] {1, MOST, 0, MOST, 1, 0}, new int[] {1, MOST, 1, MOST, 1, 5});
        asks(made("TON"), 5, new int[] {1, 100, 0, MOST, 1, 4}, new int[] {1, 100, 1, 100, 1, 5});
        asks(made("TON"), 5, new int[] {1, 100, 0, 50, 1, MOST}, new int[] {1, 100, 0, 5 + 50 - MOST, 1, 5});
        asks(made("TON"), 0, new int[] {1, 100, 0, LEAST, 1, 1}, new int[] {1, 100, 1, MOST, 1, 0});
        asks(made("TOF"), 0, new int[] {0, 100, 1, LEAST, 0, 1}, new int[] {0, 100, 0, MOST, 0, 0});
        asks(made("TP"), 0, new int[] {1, 100, 1, LEAST, 1, 1}, new int[] {1, 100, 0, MOST, 1, 0});
        asks(made("TON"), 0, new int[] {1, MOST, 0, LEAST, 1, MOST}, new int[] {1, MOST, 0, 1, 1, 0});
        asks(made("TOF"), 5, new int[] {0, MOST, 1, MOST, 0, LEAST}, new int[] {0, MOST, 0, MOST, 0, 5});
    }

    private static void leastTime() {
        Checks.says("P is PT, or 0 if that is less).");
        for (int time : new int[] {0, -1, -100, LEAST}) {
            asks(made("TON"), 5, new int[] {1, time, 0, 0, 0, 0}, new int[] {1, time, 1, 0, 1, 5});
            asks(made("TON"), 5, new int[] {1, time, 0, 3, 1, 0}, new int[] {1, time, 1, 0, 1, 5});
            asks(made("TOF"), 5, new int[] {0, time, 1, 7, 1, 0}, new int[] {0, time, 0, 0, 0, 5});
            asks(made("TOF"), 5, new int[] {0, time, 1, 3, 0, 0}, new int[] {0, time, 0, 0, 0, 5});
            asks(made("TP"), 5, new int[] {1, time, 0, 7, 0, 0}, new int[] {1, time, 0, 0, 1, 5});
            asks(made("TP"), 5, new int[] {1, time, 1, 7, 1, 0}, new int[] {1, time, 0, 0, 1, 5});
        }
        asks(made("TON"), 5, new int[] {1, 1, 0, 0, 0, 0}, new int[] {1, 1, 0, 0, 1, 5});
        asks(made("TOF"), 5, new int[] {0, 1, 1, 7, 1, 0}, new int[] {0, 1, 1, 0, 0, 5});
        asks(made("TP"), 5, new int[] {1, 1, 0, 7, 0, 0}, new int[] {1, 1, 1, 0, 1, 5});
    }

    private interface Timer {
        /** Q and ET behind a run; grown is the lesser of P and ET + d. */
        int[] behind(boolean in, int time, int q, int et, boolean before, int grown);
    }

    private static void timers(String type, Timer timer) {
        int[] times = {LEAST, -1, 0, 1, 9, 10, 11, MOST};
        int[] elapsed = {LEAST, -1, 0, 4, 5, 6, MOST};
        int[] lasts = {0, 1, LEAST, MOST, TICKS};
        for (int in : TRUTHS) {
            for (int time : times) {
                for (int m : TRUTHS) {
                    for (int q : TRUTHS) {
                        CodeMaker maker = made(type);
                        int now = 0;
                        for (int et : elapsed) {
                            for (int last : lasts) {
                                now += TICKS;
                                int p = Math.max(time, 0);
                                int grown = (int) Math.min(p, et + ((long) now - last));
                                int[] behind = timer.behind(in != 0, p, q, et, m != 0, grown);
                                asks(maker, TICKS, new int[] {in, time, q, et, m, last}, new int[] {in, time, behind[0], behind[1], in != 0 ? 1 : 0, now});
                            }
                        }
                    }
                }
            }
        }
    }

    private static int truth(boolean holds) {
        return holds ? 1 : 0;
    }

    private static void onTimers() {
        Checks.says("0 TON: IN 0: Q 0, ET 0; IN 1: ET 0 if M 0, else the lesser of P and ET + d; Q 1 if ET >= P, else 0.");
        timers("TON", (in, time, q, et, before, grown) -> {
            int becomes = in && before ? grown : 0;
            return new int[] {truth(in && becomes >= time), becomes};
        });
        CodeMaker maker = made("TON");
        asks(maker, 7, new int[] {1, 10, 0, 0, 0, 0}, new int[] {1, 10, 0, 0, 1, 7});
        asks(maker, 9, new int[] {1, 10, 0, 0, 1, 7}, new int[] {1, 10, 0, 9, 1, 16});
        asks(maker, 1, new int[] {1, 10, 0, 9, 1, 16}, new int[] {1, 10, 1, 10, 1, 17});
        asks(maker, 1, new int[] {1, 10, 1, 10, 1, 17}, new int[] {1, 10, 1, 10, 1, 18});
        asks(maker, 1, new int[] {0, 10, 1, 10, 1, 18}, new int[] {0, 10, 0, 0, 0, 19});
    }

    private static void offTimers() {
        Checks.says("1 TOF: IN 1: Q 1, ET 0; IN 0: if M 1: ET 0, Q 1 if P > 0, else 0; else, if Q: ET the lesser of P and ET + d, Q 1 if ET < P, else 0.");
        timers("TOF", (in, time, q, et, before, grown) -> {
            if (in) {
                return new int[] {1, 0};
            }
            if (before) {
                return new int[] {truth(time > 0), 0};
            }
            return q != 0 ? new int[] {truth(grown < time), grown} : new int[] {q, et};
        });
        CodeMaker maker = made("TOF");
        asks(maker, 7, new int[] {1, 10, 0, 0, 0, 0}, new int[] {1, 10, 1, 0, 1, 7});
        asks(maker, 7, new int[] {0, 10, 1, 0, 1, 7}, new int[] {0, 10, 1, 0, 0, 14});
        asks(maker, 9, new int[] {0, 10, 1, 0, 0, 14}, new int[] {0, 10, 1, 9, 0, 23});
        asks(maker, 1, new int[] {0, 10, 1, 9, 0, 23}, new int[] {0, 10, 0, 10, 0, 24});
        asks(maker, 1, new int[] {0, 10, 0, 10, 0, 24}, new int[] {0, 10, 0, 10, 0, 25});
    }

    private static void pulses() {
        Checks.says("2 TP: if Q: ET the lesser of P and ET + d, and Q 0 if ET >= P; then, if Q is 0: IN 1 and M 0: ET 0, Q 1 if P > 0; IN 0: ET 0.");
        timers("TP", (in, time, q, et, before, grown) -> {
            int becomes = q != 0 ? grown : et;
            int on = q != 0 && grown >= time ? 0 : q;
            if (on == 0 && in && !before) {
                return new int[] {truth(time > 0), 0};
            }
            return new int[] {on, on == 0 && !in ? 0 : becomes};
        });
        CodeMaker maker = made("TP");
        asks(maker, 7, new int[] {1, 10, 0, 0, 0, 0}, new int[] {1, 10, 1, 0, 1, 7});
        asks(maker, 9, new int[] {0, 10, 1, 0, 1, 7}, new int[] {0, 10, 1, 9, 0, 16});
        asks(maker, 0, new int[] {1, 10, 1, 9, 0, 16}, new int[] {1, 10, 1, 9, 1, 16});
        asks(maker, 1, new int[] {1, 10, 1, 9, 1, 16}, new int[] {1, 10, 0, 10, 1, 17});
        asks(maker, 1, new int[] {0, 10, 0, 10, 1, 17}, new int[] {0, 10, 0, 0, 0, 18});
        asks(maker, 1, new int[] {1, 10, 1, 9, 0, 18}, new int[] {1, 10, 1, 0, 1, 19});
    }

    private interface Counter {
        int behind(boolean counts, boolean loads, int wanted, int value);
    }

    private static void counters(String type, Counter counter, boolean isUp) {
        for (int first : TRUTHS) {
            for (int second : TRUTHS) {
                for (int m : TRUTHS) {
                    for (int wanted : COUNTS) {
                        CodeMaker maker = made(type);
                        for (int value : COUNTS) {
                            int becomes = counter.behind(first != 0 && m == 0, second != 0, wanted, value);
                            int on = truth(isUp ? becomes >= wanted : becomes <= 0);
                            asks(maker, 0, new int[] {first, second, wanted, 7, value, m}, new int[] {first, second, wanted, on, becomes, truth(first != 0)});
                        }
                    }
                }
            }
        }
    }

    private static void upCounters() {
        Checks.says("3 CTU: R 1: CV 0; else, if CU 1, M 0 and CV < 32,767: CV + 1; Q 1 if CV >= PV, else 0.");
        counters("CTU", (counts, loads, wanted, value) -> loads ? 0 : counts && value < 32767 ? value + 1 : value, true);
        // CU, R, PV, Q, CV, M
        asks(made("CTU"), 0, new int[] {1, 0, 5, 0, 32766, 0}, new int[] {1, 0, 5, 1, 32767, 1});
        asks(made("CTU"), 0, new int[] {1, 0, 5, 0, 32767, 0}, new int[] {1, 0, 5, 1, 32767, 1});
        asks(made("CTU"), 0, new int[] {1, 0, 5, 0, 3, 0}, new int[] {1, 0, 5, 0, 4, 1});
        asks(made("CTU"), 0, new int[] {1, 0, 5, 0, 4, 0}, new int[] {1, 0, 5, 1, 5, 1});
        asks(made("CTU"), 0, new int[] {1, 1, 0, 0, 4, 0}, new int[] {1, 1, 0, 1, 0, 1});
    }

    private static void downCounters() {
        Checks.says("4 CTD: LD 1: CV is PV; else, if CD 1, M 0 and CV > -32,768: CV - 1; Q 1 if CV <= 0, else 0.");
        counters("CTD", (counts, loads, wanted, value) -> loads ? wanted : counts && value > -32768 ? value - 1 : value, false);
        asks(made("CTD"), 0, new int[] {1, 0, 5, 0, -32767, 0}, new int[] {1, 0, 5, 1, -32768, 1});
        asks(made("CTD"), 0, new int[] {1, 0, 5, 0, -32768, 0}, new int[] {1, 0, 5, 1, -32768, 1});
        asks(made("CTD"), 0, new int[] {1, 0, 5, 0, 2, 0}, new int[] {1, 0, 5, 0, 1, 1});
        asks(made("CTD"), 0, new int[] {1, 0, 5, 0, 1, 0}, new int[] {1, 0, 5, 1, 0, 1});
        asks(made("CTD"), 0, new int[] {1, 1, 5, 0, 1, 0}, new int[] {1, 1, 5, 0, 5, 1});
    }

    private static void triggers() {
        Checks.says("5 R_TRIG: Q 1 if CLK 1 and M 0, else 0. 6 F_TRIG: Q 1 if CLK 0 and M 1, else 0.");
        for (int in : TRUTHS) {
            for (int q : TRUTHS) {
                for (int m : TRUTHS) {
                    asks(made("R_TRIG"), 0, new int[] {in, q, m}, new int[] {in, truth(in != 0 && m == 0), truth(in != 0)});
                    asks(made("F_TRIG"), 0, new int[] {in, q, m}, new int[] {in, truth(in == 0 && m != 0), truth(in != 0)});
                }
            }
        }
    }

    private static void latches() {
        Checks.says("7 SR: Q1 1 if S1, or R is 0 and Q1; else 0. 8 RS: Q1 1 if R1 is 0, and S or Q1; else 0.");
        for (int first : TRUTHS) {
            for (int second : TRUTHS) {
                for (int q : TRUTHS) {
                    asks(made("SR"), 0, new int[] {first, second, q}, new int[] {first, second, truth(first != 0 || second == 0 && q != 0)});
                    asks(made("RS"), 0, new int[] {first, second, q}, new int[] {first, second, truth(second == 0 && (first != 0 || q != 0))});
                }
            }
        }
    }

    private static void lastTime() {
        Checks.says("(an input that is not 0 counts as 1; M, behind the cells named, was the first input at the last time;");
        String[] types = {"TON", "TOF", "TP", "CTU", "CTD", "R_TRIG", "F_TRIG"};
        int[] cells = {964, 964, 964, 965, 965, 962, 962};
        for (int i = 0; i < types.length; i++) {
            CodeMaker maker = made(types[i]);
            for (int in : new int[] {1, 0, -1, 0, LEAST, 2, MOST, 0}) {
                maker.set(960, in);
                maker.run(1);
                Checks.due("M of " + types[i] + " behind " + in, maker.get(cells[i]), truth(in != 0));
                Checks.due("the input stays", maker.get(960), in);
            }
        }
        CodeMaker once = made("R_TRIG");
        asks(once, 0, new int[] {5, 0, 0}, new int[] {5, 1, 1});
        asks(once, 0, new int[] {1, 1, 1}, new int[] {1, 0, 1});
    }
}
