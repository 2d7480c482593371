import java.util.Arrays;
import java.util.Random;

/** Random lands, days, routes and sights, each answer against the brute force of Model. */
public final class ModelTest {
    private static final int NONE = Due.NONE;
    private static final Random RANDOM = new Random(20261118);

    public static void main(String[] args) {
        for (int i = 0; i < 400; i++) {
            Model m = Model.random(RANDOM, i % 3 == 0 ? 8 : 5);
            Many x = new Many();
            String text = m.text();
            // Nothing may be left of a land that was there before.
            Due.due("before", x.tell(0, NONE, Model.random(RANDOM, 8).text()), 0);
            Due.due(text, x.tell(0, 0, text), 0);
            land(x, m);
            days(x, m);
            errands(x, m);
            relays(x, m);
            waters(x, m);
            portages(x, m);
            routes(x, m);
        }
        for (int i = 0; i < 300; i++) {
            Model m = Model.random(RANDOM, i % 3 == 0 ? 8 : 4);
            Many x = new Many();
            Due.due("land", x.tell(0, NONE, m.text()), 0);
            sights(x, m, i % 2 == 0 ? below(8) : 8 + below(5));
            watchers(x, m, i);
        }
        Due.finish("ModelTest");
    }

    private static int below(int n) {
        return RANDOM.nextInt(n);
    }

    private static void land(Many x, Model m) {
        int[] heads = {m.wide, m.high, m.level, m.hour, m.afloat, m.people.size()};
        for (int what = -1; what < 70; what++) {
            int p = what % 10;
            boolean person = p >= 0 && p < m.people.size();
            int want = NONE;
            if (what >= 0 && what < 6) {
                want = heads[what];
            } else if (what / 10 == 1 && person) {
                want = m.people.get(p)[0];
            } else if (what / 10 == 2 && person) {
                want = m.people.get(p)[2] * m.wide + m.people.get(p)[1];
            }
            Due.due("land " + what, x.ask().land(0, what), want);
        }
        for (int c = -1; c < 66; c++) {
            boolean there = c >= 0 && c < m.cells();
            Due.due("height", x.ask().cell(0, c, false), there ? m.height[c / m.wide][c % m.wide] : NONE);
            Due.due("work", x.ask().cell(0, c, true), there ? m.work[c / m.wide][c % m.wide] : NONE);
        }
    }

    private static void days(Many x, Model m) {
        int many = below(41);
        int[][] deeds = new int[many][];
        StringBuilder b = new StringBuilder();
        int crowd = Math.max(1, m.people.size() + (below(4) == 0 ? 1 : 0));
        m.begin();
        int stop = 0;
        boolean stopped = false;
        for (int k = 0; k < many; k++) {
            int[] deed = {0, 0, 0};
            // Mostly such as can be, so that the days grow long.
            for (int tries = 0; tries < 6; tries++) {
                int sort = below(5);
                deed = new int[] {sort, sort == 4 ? below(10) : Math.min(below(crowd), 4), below(4)};
                if (!stopped && m.deed(deed[0], deed[1], deed[2])) {
                    stop = k + 1;
                    break;
                }
                stopped |= tries == 5;
            }
            deeds[k] = deed;
            b.append(new String[] {"go", "work", "wait", "moor", "level"}[deed[0]]).append(' ').append(deed[1]);
            b.append(deed[0] == 0 ? " " + deed[2] : "").append(';');
        }
        Due.due("day " + b, x.tell(1, NONE, b.toString()), 0);
        Due.due("deeds", x.ask().deed(0, NONE, 0), many);
        for (int k = 0; k < many; k++) {
            Due.due("deed", x.ask().deed(0, k, 0), deeds[k][0]);
            Due.due("deed", x.ask().deed(0, k, 1), deeds[k][1]);
            Due.due("deed", x.ask().deed(0, k, 2), deeds[k][0] == 0 ? deeds[k][2] : NONE);
        }
        Due.due(b + " stop", x.ask().stop(0, 0), stop);
        m.begin();
        for (int n = 0; n <= stop; n++) {
            for (int what = -1; what < 62; what++) {
                Due.due(m.text() + b + " state " + n + " " + what, x.ask().state(0, 0, n, what), m.asked(what));
            }
            if (n < stop) {
                m.deed(deeds[n][0], deeds[n][1], deeds[n][2]);
            }
        }
        Due.due("state behind", x.ask().state(0, 0, stop + 1, 0), -2);
        int seed = RANDOM.nextInt();
        int draws = below(61);
        for (int what = -1; what < 62; what++) {
            int want = -2;
            if (!m.people.isEmpty()) {
                m.drift(seed, draws);
                want = m.asked(what);
            }
            Due.due("drawn " + what, x.ask().drawn(0, seed, draws, what), want);
        }
    }

    private static void errands(Many x, Model m) {
        int kind = below(3);
        int from = below(m.cells());
        int[] first = m.errands(kind, from);
        for (int to = 0; to < m.cells(); to++) {
            Due.due(m.text() + " errand " + kind + " " + from + " " + to, x.ask().errand(0, kind, from, to), first[to]);
        }
        for (int n = 0; n < 100; n += 1 + below(9)) {
            int most = n;
            long want = Arrays.stream(first).filter(t -> t >= 0 && t <= most).count();
            Due.due(m.text() + " free " + kind + " " + from + " " + n, x.ask().free(0, kind, from, n), want);
        }
    }

    private static void relays(Many x, Model m) {
        for (int kind = 0; kind < 3; kind++) {
            for (int c = 0; c < m.cells(); c++) {
                Due.due("bank", x.ask().relay(0, c, kind, 0), m.bank(c));
                Due.due("stint", x.ask().relay(0, c, kind, 1), m.stint(c, kind));
                Due.due("turns", x.ask().relay(0, c, kind, 2), m.turns(c, kind));
            }
            Due.due("row", x.ask().relay(0, below(100) - 20, kind, 3), m.row(kind));
        }
        Due.due("inland", x.ask().inland(0), m.inland());
    }

    private static void waters(Many x, Model m) {
        for (int i = 0; i < 20; i++) {
            int a = below(m.cells());
            int b = below(m.cells());
            Due.due(m.text() + " strait " + a + " " + b, x.ask().strait(0, a, b), m.strait(a, b));
        }
        for (int by = 0; by < 10; by++) {
            for (int what = 0; what < 8; what++) {
                Due.due(m.text() + " drought " + by + " " + what, x.ask().drought(0, by, what), m.drought(by, what));
            }
        }
        int[] dig = m.turn(false);
        Due.due("dig", x.ask().dig(0, false), dig[0]);
        Due.due("dig", x.ask().dig(0, true), dig[1]);
        int[] dam = m.turn(true);
        Due.due("dam", x.ask().dam(0, false), dam[0]);
        Due.due("dam", x.ask().dam(0, true), dam[1]);
        int moored = m.moored();
        Due.due("moored", x.ask().moored(0, true), moored);
        Due.due("moored", x.ask().moored(0, false), Integer.bitCount(moored));
    }

    private static void watchers(Many x, Model m, int i) {
        int most = m.cells() > 30 && i % 10 != 0 ? 2 : 3;
        for (int n = 1; n <= most; n++) {
            int[] want = m.watch(n);
            for (int what = 0; what < 4; what++) {
                Due.due(m.text() + " watch " + n + " " + what, x.ask().watch(0, n, what), want[what]);
            }
        }
    }

    private static void portages(Many x, Model m) {
        for (int i = 0; i < 20; i++) {
            int a = below(m.cells());
            int b = below(m.cells());
            int[] want = m.portage(a, b);
            Due.due(m.text() + " portage " + a + " " + b, x.ask().portage(0, a, b, false), want[0]);
            Due.due(m.text() + " portage steps " + a + " " + b, x.ask().portage(0, a, b, true), want[1]);
        }
    }

    private static int[][] randomRoute(Model m) {
        int legs = below(11);
        int[][] route = new int[legs + 1][];
        route[0] = new int[] {below(m.wide), below(m.high)};
        for (int i = 1; i <= legs; i++) {
            route[i] = new int[] {below(5), 1 + below(below(3) == 0 ? 20 : 4)};
        }
        return route;
    }

    private static void routes(Many x, Model m) {
        int[][][] routes = new int[2][][];
        for (int r = 0; r < 2; r++) {
            routes[r] = randomRoute(m);
            StringBuilder b = new StringBuilder("from " + routes[r][0][0] + " " + routes[r][0][1] + ";");
            for (int i = 1; i < routes[r].length; i++) {
                b.append("leg ").append(routes[r][i][0]).append(' ').append(routes[r][i][1]).append(';');
            }
            Due.due("route", x.tell(2, NONE, b.toString()), r);
            Due.due("route", x.ask().route(r, NONE, 0), routes[r][0][0]);
            Due.due("route", x.ask().route(r, NONE, 1), routes[r][0][1]);
            Due.due("route", x.ask().route(r, NONE, 2), routes[r].length - 1);
            for (int i = 1; i < routes[r].length; i++) {
                Due.due("leg", x.ask().route(r, i - 1, 0), routes[r][i][0]);
                Due.due("leg", x.ask().route(r, i - 1, 1), routes[r][i][1]);
            }
        }
        for (int i = 0; i < 10; i++) {
            int r = below(2);
            int t = i == 0 ? 999 : below(below(2) == 0 ? 1000 : 40);
            Due.due("at", x.ask().at(0, r, t), m.positions(routes[r], t).get(t));
            int n = i == 0 ? 999 : 1 + below(below(2) == 0 ? 999 : 40);
            int[] want = m.meet(routes[r], routes[1], n);
            for (int what = 0; what < 5; what++) {
                Due.due("meet " + what, x.ask().meet(0, r, 1, n, what), want[what]);
            }
            int[] soaked = m.soaked(routes[r], n);
            Due.due("soaked", x.ask().soaked(0, r, n, false), soaked[0]);
            Due.due("longest", x.ask().soaked(0, r, n, true), soaked[1]);
        }
    }

    private static void sights(Many x, Model m, int n) {
        int facts = below(5);
        int[][] sight = new int[facts + 1][];
        sight[0] = new int[] {below(m.wide), below(m.high)};
        StringBuilder b = new StringBuilder("from " + sight[0][0] + " " + sight[0][1] + ";");
        for (int i = 1; i <= facts; i++) {
            boolean seen = below(4) == 0;
            int t = below(Math.min(n + 2, 13));
            // Seen near the beginning at times, so that some walks are left.
            int c = Math.min(m.wide - 1, Math.max(0, sight[0][0] + below(3) - 1));
            int r = Math.min(m.high - 1, Math.max(0, sight[0][1] + below(3) - 1));
            sight[i] = new int[] {seen ? 1 : 0, t, c, r};
            b.append(seen ? "seen " : "not ").append(t).append(' ').append(c).append(' ').append(r).append(';');
        }
        Due.due("sight", x.tell(3, NONE, b.toString()), 0);
        for (int i = 1; i <= facts; i++) {
            for (int what = 0; what < 4; what++) {
                Due.due("fact", x.ask().sight(0, i - 1, what), sight[i][what]);
            }
        }
        long[][] times = n < 8 ? m.walks(sight, n) : m.manyWalks(sight, n);
        long all = Arrays.stream(times[n]).sum();
        String name = m.text() + b + n;
        Due.due(name + " walks", x.ask().walks(0, 0, n, NONE), all);
        int ask = NONE;
        long least = Long.MAX_VALUE;
        for (int c = 0; c < m.cells(); c++) {
            Due.due(name + " ends " + c, x.ask().walks(0, 0, n, c), times[n][c]);
            long greater = Math.max(times[n][c], all - times[n][c]);
            if (all > 0 && greater < least) {
                least = greater;
                ask = c;
            }
        }
        Due.due(name + " ask", x.ask().sure(0, 0, n, NONE), ask);
        for (int t = 0; t <= n; t++) {
            int sure = NONE;
            for (int c = 0; c < m.cells(); c++) {
                sure = all > 0 && times[t][c] == all ? c : sure;
            }
            Due.due(name + " sure " + t, x.ask().sure(0, 0, n, t), sure);
        }
        Due.due("sure behind", x.ask().sure(0, 0, n, n + 1), NONE);
    }
}
