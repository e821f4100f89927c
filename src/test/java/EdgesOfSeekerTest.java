/**
 * The edges that the document's sentences name of the seeker, promises 9 to 13: each thing that an ACT asks for, had and
 * just not had; the first and the last; never. A sentence stands above its test.
 */
final class EdgesOfSeekerTest {
    private EdgesOfSeekerTest() {
    }

    /** The tale can be as far as so many acts; DAYS, what is OPENED, KEYS, the ISLAND, whether IT IS HAD there. */
    private static void judged(GiantHeart x, String tale, long... due) {
        for (int what = 0; what < due.length; what++) {
            Check.due("tale " + tale + " " + what, Check.tale(x, tale, what), due[what]);
        }
    }

    /** THE SEEKER begins on ISLAND 0 with no KEYS, nothing OPENED, DAY 0; the first ACT that can't be. */
    private static void begins() {
        GiantHeart x = Scene.soon();
        judged(x, "g0", 0, 0, 0, 0, 0, 0);
        judged(x, "o5,o0", 0, 0, 0, 0, 0, 0);
        judged(x, "o0,o5,o1", 1, 1, 1, 1, 0, 1);
        judged(x, "o0,o1", 2, 2, 3, 3, 0, 1);
        judged(x, "o1", 1, 1, 2, 2, 0, 0);
        // nothing is told at all
        judged(new GiantHeart(), "o0", 0, 0, 0, 0, 0, 0);
        judged(new GiantHeart(), "r3", 1, 1, 0, 0, 3, 0);
        // each tale begins anew
        judged(x, "o0", 1, 1, 1, 1, 0, 1);
        // 32 ACTS that all can be, of 30 DAYS each
        GiantHeart y = new GiantHeart();
        y.way(0, 3, 30);
        String tale = "g3,g0,".repeat(15) + "g3,g0";
        judged(y, tale, 32, 960, 0, 0, 0, 0);
        judged(y, "g3,g0,".repeat(15) + "g3,g3", 31, 930, 0, 0, 3, 0);
        // all OPENED, all KEYS
        GiantHeart z = new GiantHeart();
        for (int p = 0; p < 8; p++) {
            z.place(p, 0, -1, p - 1);
            z.key(p, p);
        }
        z.heart(7);
        judged(z, "o0,o1,o2,o3,o4,o5,o6,o7", 8, 8, 255, 255, 0, 1);
        judged(z, "o0,o1,o2,o3,o4,o5,o6", 7, 7, 127, 127, 0, 0);
        judged(z, "o1", 0, 0, 0, 0, 0, 0);
    }

    /** g: goes there by a WAY (its DAYS); to the ISLAND on which he is he can't go nor be carried. */
    private static void going() {
        GiantHeart x = new GiantHeart();
        x.way(0, 1, 1);
        x.way(1, 2, 7);
        x.way(2, 3, 30);
        judged(x, "g1,g2,g3,g2,g1,g0", 6, 76, 0, 0, 0, 0);
        judged(x, "g2", 0, 0, 0, 0, 0, 0);
        judged(x, "g1,g3", 1, 1, 0, 0, 1, 0);
        judged(x, "g1,g1", 1, 1, 0, 0, 1, 0);
        judged(x, "g1,g2,g2", 2, 8, 0, 0, 2, 0);
        judged(x, "g1,g2,g3,g3", 3, 38, 0, 0, 3, 0);
        judged(x, "g0", 0, 0, 0, 0, 0, 0);
        x.way(1, 2, 0);
        judged(x, "g1,g2", 1, 1, 0, 0, 1, 0);
        x.way(0, 2, 3);
        judged(x, "g2,g1", 1, 3, 0, 0, 2, 0);
        judged(x, "g2,g0,g1", 3, 7, 0, 0, 1, 0);
    }

    /** r: the raven carries him there (1 DAY), once. */
    private static void carried() {
        GiantHeart x = new GiantHeart();
        for (int from = 0; from < 4; from++) {
            x.way(0, 3, 5);
            for (int to = 0; to < 4; to++) {
                GiantHeart y = new GiantHeart();
                for (int island = 1; island < 4; island++) {
                    y.way(0, island, 5);
                }
                String go = from == 0 ? "" : "g" + from + ",";
                int acts = from == 0 ? 0 : 1;
                boolean can = from != to;
                judged(y, go + "r" + to, acts + (can ? 1 : 0), 5 * acts + (can ? 1 : 0), 0, 0, can ? to : from, 0);
            }
        }
        judged(x, "r3,g0,r3", 2, 6, 0, 0, 0, 0);
        judged(x, "r3,r0", 1, 1, 0, 0, 3, 0);
        judged(x, "r0,r3", 0, 0, 0, 0, 0, 0);
    }

    /** o: told, not OPENED, on his ISLAND, not within one (on any level) not OPENED, without a LOCK or he has the KEY. */
    private static void opening() {
        GiantHeart x = new GiantHeart();
        x.way(0, 1, 2);
        x.place(0, 0, -1, -1);
        x.place(1, 1, -1, 0);
        x.place(2, 0, 1, 7);
        x.place(3, 0, 2, -1);
        x.place(7, 0, -1, 7);
        x.key(0, 0);
        x.key(1, 0);
        x.key(7, 1);
        x.key(6, 3);
        x.key(5, 7);
        x.heart(3);
        judged(x, "o0", 1, 1, 1, 3, 0, 0);
        judged(x, "o0,o0", 1, 1, 1, 3, 0, 0);
        judged(x, "o1", 0, 0, 0, 0, 0, 0);
        judged(x, "o0,o1", 1, 1, 1, 3, 0, 0);
        judged(x, "g1,o1", 1, 2, 0, 0, 1, 0);
        judged(x, "g1,o0", 1, 2, 0, 0, 1, 0);
        judged(x, "o0,g1,o1", 3, 4, 3, 131, 1, 0);
        judged(x, "o0,g1,o2", 2, 3, 1, 3, 1, 0);
        judged(x, "o0,g1,o3", 2, 3, 1, 3, 1, 0);
        judged(x, "o0,g1,o1,o3", 3, 4, 3, 131, 1, 0);
        judged(x, "o0,g1,o1,o2,o3", 5, 6, 15, 195, 1, 1);
        judged(x, "o0,g1,o1,o2,o3,o2", 5, 6, 15, 195, 1, 1);
        judged(x, "o0,g1,o1,g0,o7,o6", 5, 7, 131, 163, 0, 0);
        judged(x, "o4", 0, 0, 0, 0, 0, 0);
        judged(x, "o7", 0, 0, 0, 0, 0, 0);
        // its own KEY in it
        x.key(7, 7);
        judged(x, "o7", 0, 0, 0, 0, 0, 0);
        x.key(7, -1);
        judged(x, "o0,o7", 1, 1, 1, 3, 0, 0);
        // told anew on another ISLAND, and back, without a LOCK
        x.place(7, 1, -1, -1);
        judged(x, "o7", 0, 0, 0, 0, 0, 0);
        judged(x, "g1,o7", 2, 3, 128, 32, 1, 0);
        x.place(7, 0, -1, -1);
        judged(x, "o7", 1, 1, 128, 32, 0, 0);
        judged(x, "g1,o7", 1, 2, 0, 0, 1, 0);
        // what is within goes along
        x.place(1, 0, -1, -1);
        judged(x, "o1", 1, 1, 2, 0, 0, 0);
        judged(x, "o1,o2", 1, 1, 2, 0, 0, 0);
        x.key(7, 10);
        judged(x, "o1,k2,o2,o3", 4, 3, 14, 192, 0, 1);
    }

    /** w: the wolf opens it likewise without a KEY, if it is not WET (1 DAY); once. */
    private static void byTheWolf() {
        GiantHeart x = new GiantHeart();
        x.place(0, 0, -1, 5);
        x.place(1, 0, 0, 5);
        x.place(2, 1, -1, -1);
        x.place(3, 0, -1, -1);
        x.place(4, 0, 3, -1);
        x.place(5, 0, 4, 5);
        x.more(3, true, -1);
        x.key(1, 0);
        x.key(2, 0);
        x.heart(0);
        judged(x, "w0", 1, 1, 1, 6, 0, 1);
        judged(x, "w0,w3", 1, 1, 1, 6, 0, 1);
        judged(x, "w0,w1", 1, 1, 1, 6, 0, 1);
        judged(x, "w0,w0", 1, 1, 1, 6, 0, 1);
        judged(x, "w1", 0, 0, 0, 0, 0, 0);
        judged(x, "w2", 0, 0, 0, 0, 0, 0);
        judged(x, "r1,w2", 2, 2, 4, 0, 1, 0);
        judged(x, "w3", 0, 0, 0, 0, 0, 0);
        judged(x, "w4", 0, 0, 0, 0, 0, 0);
        judged(x, "o3,w3", 1, 1, 8, 0, 0, 0);
        judged(x, "o3,w4", 2, 2, 24, 0, 0, 0);
        judged(x, "o3,w5", 1, 1, 8, 0, 0, 0);
        judged(x, "o3,o4,w5", 3, 3, 56, 0, 0, 0);
        judged(x, "w6", 0, 0, 0, 0, 0, 0);
        judged(x, "w7", 0, 0, 0, 0, 0, 0);
        judged(x, "s3,w4", 2, 2, 24, 0, 0, 0);
        x.more(0, true, -1);
        judged(x, "w0", 0, 0, 0, 0, 0, 0);
        x.more(0, false, -1);
        judged(x, "w0", 1, 1, 1, 6, 0, 1);
    }

    /** s: the salmon does, if it is WET, also if it is within one that is not OPENED (1 DAY); once. */
    private static void byTheSalmon() {
        GiantHeart x = new GiantHeart();
        x.place(0, 0, -1, 5);
        x.place(1, 0, 0, 5);
        x.place(2, 0, 1, 5);
        x.place(3, 1, -1, -1);
        x.place(4, 0, -1, -1);
        x.place(5, 0, -1, -1);
        for (int p : new int[] {0, 2, 3, 5}) {
            x.more(p, true, -1);
        }
        x.key(1, 2);
        x.key(2, 0);
        x.heart(2);
        judged(x, "s2", 1, 1, 4, 2, 0, 1);
        judged(x, "s2,s0", 1, 1, 4, 2, 0, 1);
        judged(x, "s2,o1", 1, 1, 4, 2, 0, 1);
        judged(x, "s0", 1, 1, 1, 4, 0, 0);
        judged(x, "s0,s0", 1, 1, 1, 4, 0, 0);
        judged(x, "s0,w1,o2", 2, 2, 3, 4, 0, 0);
        judged(x, "s1", 0, 0, 0, 0, 0, 0);
        judged(x, "s3", 0, 0, 0, 0, 0, 0);
        judged(x, "r1,s3", 2, 2, 8, 0, 1, 0);
        judged(x, "r1,s2", 1, 1, 0, 0, 1, 0);
        judged(x, "s4", 0, 0, 0, 0, 0, 0);
        judged(x, "o5,s5", 1, 1, 32, 0, 0, 0);
        judged(x, "s5", 1, 1, 32, 0, 0, 0);
        judged(x, "s6", 0, 0, 0, 0, 0, 0);
        judged(x, "s7", 0, 0, 0, 0, 0, 0);
        x.more(2, false, -1);
        judged(x, "s2", 0, 0, 0, 0, 0, 0);
    }

    /** k: it gives the KEYS it has in its mouth (0 DAYS). A BEAST that carried, opened or gave does no more. */
    private static void giving() {
        GiantHeart x = new GiantHeart();
        x.place(0, 0, -1, -1);
        x.place(1, 0, -1, -1);
        x.place(2, 0, -1, -1);
        x.more(1, true, -1);
        for (int b = 0; b < 3; b++) {
            judged(x, "k" + b, 0, 0, 0, 0, 0, 0);
        }
        String[] deeds = {"r1", "w0", "s1"};
        long[] opened = {0, 1, 2};
        for (int b = 0; b < 3; b++) {
            long island = b == 0 ? 1 : 0;
            long had = b == 1 ? 1 : 0;
            // one without a KEY in its mouth can't give any, and its one thing is still to be done
            judged(x, deeds[b], 1, 1, opened[b], 0, island, had);
            x.key(3, 8 + b);
            x.key(7, 8 + b);
            x.key(0, 8 + (b + 1) % 3);
            judged(x, "k" + b, 1, 0, 0, 136, 0, 0);
            judged(x, "k" + b + ",k" + b, 1, 0, 0, 136, 0, 0);
            judged(x, "k" + b + "," + deeds[b], 1, 0, 0, 136, 0, 0);
            judged(x, deeds[b] + ",k" + b, 1, 1, opened[b], 0, island, had);
            judged(x, "k" + b + ",k" + (b + 1) % 3, 2, 0, 0, 137, 0, 0);
            judged(x, deeds[b] + ",k" + (b + 1) % 3, 2, 1, opened[b], 1, island, had);
            judged(x, "k" + (b + 2) % 3, 0, 0, 0, 0, 0, 0);
            x.key(3, -1);
            x.key(7, 2);
            x.key(0, -1);
            judged(x, "k" + b, 0, 0, 0, 0, 0, 0);
        }
        x.key(1, 8);
        x.key(2, 9);
        x.key(3, 10);
        judged(x, "k0,k1,k2", 3, 0, 0, 14, 0, 0);
        judged(x, "k2,k1,k0,r1", 3, 0, 0, 14, 0, 0);
        judged(x, "r1,k1,k2", 3, 1, 0, 12, 1, 0);
        // by three gifts: each of the three must give
        GiantHeart y = new GiantHeart();
        for (int p = 0; p < 6; p++) {
            y.place(p, 0, p % 2 == 0 ? -1 : p - 1, p / 2);
            y.key(p / 2, 8 + p / 2);
        }
        for (int p = 0; p < 5; p++) {
            y.more(p, p % 2 == 1, p + 1);
        }
        y.more(5, true, -1);
        judged(y, "k0,k1,k2,o0,o1,o2,o3,o4,o5", 9, 6, 63, 7, 0, 1);
        judged(y, "k0,k1,o0,o1,o2,o3,o4", 6, 4, 15, 3, 0, 0);
        Check.due("six DAYS", y.soonest(0), 6);
    }

    /** IT IS HAD, when the PLACE of THE HEART is OPENED, and the one to which that has a FLIGHT, and so on. */
    private static void had() {
        GiantHeart x = new GiantHeart();
        for (int p = 0; p < 8; p++) {
            x.place(p, 0, -1, -1);
        }
        for (int p = 0; p < 7; p++) {
            x.more(p, false, p + 1);
        }
        judged(x, "o0,o1,o2,o3,o4,o5,o6,o7", 8, 8, 255, 0, 0, 1);
        judged(x, "o7,o6,o5,o4,o3,o2,o1,o0", 8, 8, 255, 0, 0, 1);
        for (int p = 0; p < 8; p++) {
            StringBuilder tale = new StringBuilder();
            for (int q = 0; q < 8; q++) {
                tale.append(q == p ? "" : (tale.length() > 0 ? "," : "") + "o" + q);
            }
            judged(x, tale.toString(), 7, 7, 255 - (1 << p), 0, 0, 0);
        }
        Check.due("eight DAYS", x.soonest(0), 8);
        Check.due("eight OPENED", x.soonest(1), 8);
        Check.due("eight ACTS", x.plan(-1), 8);
        for (int p = 0; p < 8; p++) {
            Check.due("o" + p, x.plan(p), 20 + p);
        }
        Check.due("no ninth", x.plan(8), -3);
        x.heart(7);
        judged(x, "o7", 1, 1, 128, 0, 0, 1);
        judged(x, "o0,o1,o2,o3,o4,o5,o6", 7, 7, 127, 0, 0, 0);
        Check.due("one DAY", x.soonest(0), 1);
        Check.due("one OPENED", x.soonest(1), 1);
        Check.due("one ACT", x.plan(-1), 1);
        Check.due("o7", x.plan(0), 27);
        Check.due("no second", x.plan(1), -3);
        x.heart(5);
        x.more(5, false, 7);
        judged(x, "o5,o7", 2, 2, 160, 0, 0, 1);
        judged(x, "o5,o6", 2, 2, 96, 0, 0, 0);
        x.more(5, false, -1);
        judged(x, "o5", 1, 1, 32, 0, 0, 1);
        // nothing is HAD while THE HEART's PLACE is not told
        GiantHeart y = Scene.noHeart();
        y.check(0);
        judged(y, "r1,o1", 1, 1, 0, 0, 1, 0);
        judged(y, "g1,s1", 1, 2, 0, 0, 1, 0);
    }

    private static void planIs(GiantHeart x, int... due) {
        Check.due("how many ACTS", x.plan(-1), due.length);
        for (int i = 0; i < due.length; i++) {
            Check.due("the ACT at " + i, x.plan(i), due[i]);
        }
        Check.due("no such place", x.plan(due.length), -3);
    }

    /** THE PLAN: the fewest DAYS; of like ones the fewest ACTS, then the least row (g r o w s k, then digits). */
    private static void plans() {
        // far off, three of one LOCK, whose KEY the raven has: he must go, and the raven give
        GiantHeart x = new GiantHeart();
        x.way(0, 1, 30);
        x.way(1, 2, 30);
        x.way(2, 3, 30);
        for (int p = 5; p < 8; p++) {
            x.place(p, 3, -1, 0);
        }
        x.more(7, true, -1);
        x.more(6, false, 7);
        x.more(5, false, 6);
        x.heart(5);
        x.key(0, 8);
        Check.due("90 by the WAYS", x.soonest(0), 93);
        Check.due("OPENED", x.soonest(1), 3);
        planIs(x, 1, 2, 3, 35, 47, 50, 26);
        Check.due("missed", x.missed(0), -2);
        Check.due("not missed", x.missed(7), 0);
        x.key(0, 10);
        // the salmon gives, the raven carries: 6 and 7 by the KEY, 5 by the wolf, o ahead of w
        Check.due("by the raven", x.soonest(0), 4);
        planIs(x, 13, 35, 52, 26, 27);
        x.place(5, 3, -1, -1);
        x.more(5, false, 6);
        planIs(x, 13, 25, 36, 47);
        x.way(0, 3, 1);
        planIs(x, 3, 25, 36, 47);
        // a KEY that is at hand makes no difference to DAYS; the o comes first
        GiantHeart y = Scene.soon();
        y.more(0, false, 1);
        planIs(y, 20, 21);
        y.more(1, true, -1);
        planIs(y, 20, 21);
        y.place(0, 0, -1, 3);
        y.more(0, false, 1);
        // w0 can be ahead of o1, but o is less
        planIs(y, 21, 30);
        y.more(0, true, 1);
        planIs(y, 21, 40);
        // the KEY in the wolf: k1,o0,o1 has an act more than o1,s0; that in the salmon with two wet ones must be given
        y.key(3, 9);
        planIs(y, 21, 40);
        y.place(1, 0, -1, 3);
        y.more(1, true, -1);
        y.more(0, true, 1);
        planIs(y, 40, 51, 21);
        y.key(3, 10);
        planIs(y, 52, 20, 21);
        // the digits: from 0 to 2 by 1, or by 3, or at once, all in as many DAYS: the fewest ACTS; then the least digit
        GiantHeart z = new GiantHeart();
        z.place(0, 2, -1, -1);
        z.place(1, 2, -1, 0);
        z.place(2, 2, -1, 0);
        z.place(3, 2, -1, 0);
        z.more(2, true, 3);
        z.more(1, false, 2);
        z.more(0, false, 1);
        z.key(0, 8);
        z.way(0, 1, 2);
        z.way(1, 2, 2);
        z.way(0, 3, 2);
        z.way(3, 2, 2);
        planIs(z, 1, 2, 20, 31, 42, 50, 23);
        z.way(0, 2, 4);
        planIs(z, 2, 20, 31, 42, 50, 23);
        z.way(0, 2, 5);
        z.way(0, 1, 3);
        planIs(z, 3, 2, 20, 31, 42, 50, 23);
    }

    /** Back to ISLAND 0, by a WAY and by the raven; the 3, the last one, too. */
    private static void plansBack() {
        for (int far = 1; far < 4; far++) {
            GiantHeart x = new GiantHeart();
            x.way(0, far, 1);
            x.place(0, far, -1, -1);
            x.place(1, 0, -1, 7);
            x.place(2, 0, -1, 7);
            x.place(3, 0, -1, 7);
            x.more(3, true, -1);
            x.more(2, false, 3);
            x.more(1, false, 2);
            x.heart(1);
            x.key(7, 0);
            Check.due("there and back", x.soonest(0), 6);
            planIs(x, far, 20, 0, 21, 22, 23);
            Check.due("never without", x.missed(7), -2);
            x.way(0, far, 5);
            // one of the two ways by the raven: g is ahead of r
            Check.due("there and back", x.soonest(0), 10);
            planIs(x, far, 20, 10, 21, 22, 23);
            x.way(0, far, 0);
            Check.due("there, but not back", x.soonest(0), -2);
            x.way(1, 2, 1);
            x.way(2, 3, 1);
            x.way(3, 0, 2);
            // the raven there, o0, then back by 3, the last two DAYS from there, and three are opened
            Check.due("round", x.soonest(0), 1 + 1 + 5 - far + 3);
        }
    }

    /** All WAYS lead over ISLAND 0: to 1 for a KEY, to 3 for another, to 2 with both; one of these by the raven. */
    private static void overTheFirst() {
        GiantHeart x = new GiantHeart();
        for (int island = 1; island < 4; island++) {
            x.way(0, island, 1);
        }
        x.place(0, 1, -1, -1);
        x.place(1, 3, -1, -1);
        for (int p = 2; p < 6; p++) {
            x.place(p, 2, -1, p < 4 ? 6 : 7);
        }
        for (int p = 2; p < 5; p++) {
            x.more(p, false, p + 1);
        }
        x.heart(2);
        x.key(6, 0);
        x.key(7, 1);
        // the wolf opens but one of four
        Check.due("DAYS", x.soonest(0), 10);
        Check.due("OPENED", x.soonest(1), 6);
        planIs(x, 1, 20, 0, 3, 21, 12, 22, 23, 24, 25);
        // the raven gives a KEY: once more over 0
        x.key(5, 8);
        x.place(6, 2, -1, 5);
        x.place(7, 2, -1, 5);
        x.more(5, false, 6);
        x.more(6, false, 7);
        Check.due("DAYS", x.soonest(0), 13);
        Check.due("OPENED", x.soonest(1), 8);
        planIs(x, 1, 20, 0, 3, 21, 0, 2, 22, 23, 24, 25, 36, 50, 27);
    }

    /** What must be OPENED for a KEY, or around a PLACE, has a lower number than that PLACE or a higher one. */
    private static void lowerAndHigher() {
        // 0 and 1 want the KEY 7 in 2, all wet: the salmon opens but one
        GiantHeart x = new GiantHeart();
        x.place(0, 0, -1, 7);
        x.place(1, 0, -1, 7);
        x.place(2, 0, -1, -1);
        x.more(2, true, -1);
        x.more(1, true, 2);
        x.more(0, true, 1);
        x.key(7, 2);
        Check.due("the KEY in one that is to be OPENED", x.soonest(0), 3);
        planIs(x, 22, 20, 21);
        x.more(1, true, -1);
        Check.due("the KEY, or the salmon", x.soonest(0), 3);
        planIs(x, 22, 20, 21);
        // 1 wants the KEY 6, which is nowhere, so the salmon is for it
        x.place(1, 0, -1, 6);
        x.more(1, true, -1);
        Check.due("the KEY for 0, the salmon for 1", x.soonest(0), 3);
        planIs(x, 22, 20, 41);
        Check.due("never without", x.missed(7), -2);
        // the heart in 2 and 3, within 1, the KEY in 5, which is within 4
        GiantHeart y = new GiantHeart();
        y.place(1, 0, -1, -1);
        y.place(2, 0, 1, 6);
        y.place(3, 0, 1, 6);
        y.place(4, 0, -1, -1);
        y.place(5, 0, 4, -1);
        y.more(2, false, 3);
        y.heart(2);
        y.key(6, 5);
        Check.due("o1, o4, o5, o2, o3", y.soonest(0), 5);
        Check.due("OPENED", y.soonest(1), 5);
        planIs(y, 21, 24, 25, 22, 23);
        Check.due("the wolf opens but one", y.missed(6), -2);
        y.more(5, true, -1);
        Check.due("the salmon opens 5 within 4", y.soonest(0), 4);
        Check.due("OPENED", y.soonest(1), 4);
        planIs(y, 21, 32, 45, 23);
    }

    /** THE PLAN is a TALE, so no wood needs more than 32 ACTS: one that needs 30, to and fro between far ISLANDS. */
    private static void longPlan() {
        GiantHeart x = new GiantHeart();
        x.way(0, 1, 2);
        x.way(1, 3, 2);
        x.way(3, 2, 5);
        x.place(0, 2, -1, 1);
        x.place(1, 2, -1, 4);
        x.place(2, 0, -1, 0);
        x.place(3, 2, -1, 6);
        x.place(4, 0, -1, 3);
        x.place(5, 2, 0, 0);
        x.place(6, 0, -1, 7);
        x.place(7, 2, 3, 5);
        for (int p = 0; p < 7; p++) {
            x.more(p, false, p + 1);
        }
        int[] where = {5, 8, -1, 3, 6, 4, 2, 7};
        for (int k = 0; k < 8; k++) {
            x.key(k, where[k]);
        }
        planIs(x, 1, 3, 2, 50, 20, 35, 3, 1, 0, 22, 1, 3, 2, 23, 3, 1, 0, 24, 1, 3, 2, 27, 3, 1, 0, 26, 1, 3, 2, 21);
        Check.due("seven times 9 DAYS, and 8", x.soonest(0), 71);
        Check.due("all", x.soonest(1), 8);
        judged(x, "g1,g3,g2,k0,o0,w5,g3,g1,g0,o2,g1,g3,g2,o3,g3,g1,g0,o4,g1,g3,g2,o7,g3,g1,g0,o6,g1,g3,g2,o1",
            30, 71, 255, 251, 2, 1);
    }

    /** SOONEST: of ways with the fewest DAYS also the fewest PLACES that are OPENED. */
    private static void soonest() {
        // in 3 DAYS by way of the KEY (two OPENED) or over two ISLANDS (one OPENED)
        GiantHeart x = new GiantHeart();
        x.place(0, 0, -1, -1);
        x.place(1, 0, -1, -1);
        x.place(2, 0, 1, 1);
        x.place(3, 0, 2, 0);
        x.more(0, true, -1);
        x.more(1, true, -1);
        x.heart(3);
        x.key(0, 0);
        x.key(1, 9);
        // o1 w2, and then 3 wants key 0: o0; or o1, k1, o2 .. : four OPENED each
        Check.due("DAYS", x.soonest(0), 4);
        Check.due("OPENED", x.soonest(1), 4);
        planIs(x, 20, 21, 32, 23);
        x.place(3, 0, 2, 1);
        Check.due("DAYS", x.soonest(0), 3);
        Check.due("OPENED", x.soonest(1), 3);
        planIs(x, 21, 51, 22, 23);
        x.more(3, true, -1);
        Check.due("the salmon at once", x.soonest(0), 1);
        Check.due("OPENED", x.soonest(1), 1);
        planIs(x, 43);
        // 2 DAYS: to open two here, or one there
        GiantHeart y = new GiantHeart();
        y.place(0, 0, -1, -1);
        y.place(1, 1, -1, -1);
        y.heart(1);
        Check.due("one there", y.soonest(0), 2);
        Check.due("one there", y.soonest(1), 1);
        Check.due("never without a WAY but the raven's", y.plan(0), 11);
        y.place(1, 1, -1, 0);
        y.more(1, true, -1);
        y.key(0, 8);
        y.place(2, 1, -1, 0);
        y.more(2, true, -1);
        y.more(1, true, 2);
        Check.due("the raven can't both carry and give", y.soonest(0), -2);
        Check.due("never", y.soonest(1), -2);
        Check.due("never", y.plan(-1), -2);
        Check.due("never", y.plan(0), -2);
        Check.due("never as it is", y.missed(0), -3);
        Check.due("never as it is", y.missed(1), -3);
        y.way(0, 1, 30);
        Check.due("by a WAY", y.soonest(0), 32);
        Check.due("OPENED", y.soonest(1), 2);
    }

    /** MISSED: by how many DAYS more, if it were nowhere; -2: never then; -3: never as it is. */
    private static void missed() {
        GiantHeart x = new GiantHeart();
        x.way(0, 1, 30);
        x.place(0, 0, -1, 0);
        x.place(1, 0, -1, 0);
        x.place(2, 0, -1, 0);
        x.more(1, false, 2);
        x.more(0, false, 1);
        x.place(3, 0, -1, -1);
        x.place(4, 1, -1, -1);
        x.key(0, 3);
        Check.due("four DAYS", x.soonest(0), 4);
        Check.due("the wolf opens but one: never then", x.missed(0), -2);
        for (int k = 1; k < 8; k++) {
            Check.due("one that is nowhere anyway", x.missed(k), 0);
        }
        x.more(1, true, 2);
        Check.due("never then: dry, wet, dry", x.missed(0), -2);
        x.place(2, 0, -1, 7);
        Check.due("7 is nowhere: the wolf", x.soonest(0), 4);
        Check.due("0 would be missed for ever", x.missed(0), -2);
        x.key(7, 4);
        Check.due("7 is far: the wolf", x.soonest(0), 4);
        Check.due("7 is not missed", x.missed(7), 0);
        // without 0: the wolf and the salmon open 0 and 1, and 7 is fetched by the raven and a WAY: 1 + 1 + 30 + 3
        Check.due("0 is missed by 31", x.missed(0), 31);
        // and by a WAY of 1 DAY: 1 + 1 + 1 + 3
        x.way(0, 1, 1);
        Check.due("0 is missed by 2", x.missed(0), 2);
        Check.due("nothing is changed", x.count(10), 3);
        x.key(0, 10);
        // k2 o0 o1 w2
        Check.due("in a mouth", x.soonest(0), 3);
        Check.due("the salmon opens 1, the wolf 0 or 2: 7 is fetched", x.missed(0), 3);
        Check.due("nothing is changed", x.count(10), 10);
    }

    /** HIDDEN: told KEYS (2 to 4) that are in PLACES change these among them: so that IT IS HAD as late as can be, but is. */
    private static void hidden() {
        // 4 and 5 want the KEY 3, which the salmon gives; all are wet; 0 is free, 1 to 3 have the LOCKS 0 to 2
        GiantHeart x = new GiantHeart();
        for (int p = 0; p < 6; p++) {
            x.place(p, 0, -1, p == 0 ? -1 : p < 4 ? p - 1 : 3);
        }
        x.more(5, true, -1);
        x.more(4, true, 5);
        x.more(3, true, 4);
        x.more(2, true, -1);
        x.more(1, true, -1);
        x.more(0, true, -1);
        x.heart(3);
        x.key(3, 10);
        // 7 and 0 in 0, 6 and 1 in 1, 5 and 2 in 2: the longest is 0 in 0, 1 in 1, 2 in 2: o0 o1 o2 k2 o3 o4 o5
        int[] keys = {0, 1, 2, -1, -1, 2, 1, 0};
        for (int k = 0; k < 8; k++) {
            if (keys[k] >= 0) {
                x.key(k, keys[k]);
            }
        }
        Check.due("as late as can be", x.soonest(0), 6);
        Check.due("two", x.hidden(1 + 128, 10), 6);
        Check.due("two alike: the least row", x.hidden(1 + 128, 0), 0);
        Check.due("two alike: the least row", x.hidden(1 + 128, 7), 7);
        Check.due("not one", x.hidden(1, 10), -1);
        Check.due("not five", x.hidden(7 + 32 + 64, 10), -1);
        Check.due("four", x.hidden(7 + 32, 10), 6);
        Check.due("three", x.hidden(32 + 64 + 128, 10), 6);
        for (int k : new int[] {5, 6, 7}) {
            Check.due("the least row", x.hidden(32 + 64 + 128, k), k);
        }
        // 2 comes into 0: it is had at once; 2 comes back into 2 by any of those that are there
        x.key(2, 0);
        x.key(0, 2);
        Check.due("o0 k2 o3 o4 o5", x.soonest(0), 4);
        Check.due("2 and 0 change", x.hidden(5, 10), 6);
        Check.due("0 gets that of 2", x.hidden(5, 0), 2);
        Check.due("2 gets that of 0", x.hidden(5, 2), 0);
        Check.due("0, 2 and 5", x.hidden(37, 10), 6);
        Check.due("0 gets that of 2", x.hidden(37, 0), 2);
        Check.due("2 gets that of 0", x.hidden(37, 2), 0);
        Check.due("5 stays", x.hidden(37, 5), 5);
        Check.due("2, 5 and 7: 0 stays in 2, so 1 is locked but for the salmon", x.hidden(4 + 32 + 128, 10), 4);
        Check.due("as it is", x.soonest(0), 4);
        Check.due("11: and it is so", x.hidden(37, 11), 6);
        Check.due("0 is in 0", x.count(10), 0);
        Check.due("2 is in 2", x.count(12), 2);
        Check.due("5 is in 2", x.count(15), 2);
        Check.due("1 stays", x.count(11), 1);
        Check.due("3 stays", x.count(13), 10);
        Check.due("it takes so long", x.soonest(0), 6);
        Check.due("again", x.hidden(37, 11), 6);
        Check.due("0 is in 0", x.count(10), 0);
    }

    public static void main(String[] args) {
        begins();
        going();
        carried();
        opening();
        byTheWolf();
        byTheSalmon();
        giving();
        had();
        plans();
        plansBack();
        overTheFirst();
        lowerAndHigher();
        longPlan();
        soonest();
        missed();
        hidden();
        Check.end("EdgesOfSeekerTest");
    }
}
