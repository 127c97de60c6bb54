/** For each promise of the document: ordinary inputs, its edges, and wrong inputs. */
public final class PromiseTest {
    private static final int UNKNOWN = -1, OUTSIDE = -2, STATE = -3, NONE = -9;
    private static final int LEAST = Integer.MIN_VALUE, GREATEST = Integer.MAX_VALUE;
    private static final int[] NO_STATES = {LEAST, -1, 6, GREATEST};
    private static final Due due = new Due("PromiseTest");

    public static void main(String[] args) {
        constants();
        promise1();
        promise2();
        promise3();
        promise4();
        promise5();
        promise6();
        promise7();
        promise8();
        promise9();
        promise10();
        promise11();
        promise12();
        promise13();
        promise14();
        promise15();
        promise16();
        promise17();
        promise18();
        promise19();
        promise20();
        promise21();
        promise22();
        promise23();
        promise24();
        promise25();
        promise26();
        widest();
        due.end();
    }

    private static void constants() {
        due.is("UNKNOWN", MetAgents.UNKNOWN, -1);
        due.is("OUTSIDE", MetAgents.OUTSIDE, -2);
        due.is("STATE", MetAgents.STATE, -3);
        due.is("NONE", MetAgents.NONE, -9);
        due.is("LOST", MetAgents.LOST, Long.MIN_VALUE);
    }

    private static void promise1() {
        MetAgents x = new MetAgents();
        for (int what = 0; what <= 3; what++) {
            due.is("1: many of a new one " + what, x.many(what), 0);
        }
        for (int s = 0; s < 6; s++) {
            due.is("1: tells at first", x.tells(s, 0), 0);
            due.is("1: weight at first", x.weight(s, 0), 10);
            due.is("1: in at first", x.in(s), 0);
        }
        due.is("1: no rule", x.ofRule(0, 0), UNKNOWN);
        due.is("1: no agent", x.agent(0), UNKNOWN);
        due.is("1: no meeting", x.meet(0, 1), UNKNOWN);
        due.is("1: no wait", x.waits(0, 1), UNKNOWN);
        due.is("1: seed at first", x.seed(5), 1);
        MetAgents other = new MetAgents();
        x.rule(0, 0, 1, 1);
        x.agents(2, 0, 0, 0, 0, 0);
        due.is("1: objects share no rules", other.many(0), 0);
        due.is("1: objects share no agents", other.many(1), 0);
        due.is("1: objects share no seed", other.seed(1), 1);
    }

    private static void rules(String what, MetAgents x, String... all) {
        due.is(what + ": how many", x.many(0), all.length);
        for (int k = 0; k < all.length; k++) {
            for (int part = 0; part < 4; part++) {
                due.is(what + ": rule " + k + " part " + part, x.ofRule(k, part), all[k].charAt(part) - '0');
            }
        }
        due.is(what + ": one more", x.ofRule(all.length, 0), UNKNOWN);
    }

    private static MetAgents withTwelve() {
        MetAgents x = new MetAgents();
        for (int i = 0; i < 12; i++) {
            due.is("2: rule " + i, x.rule(i / 6, i % 6, 5, 4), i + 1);
        }
        return x;
    }

    private static void promise2() {
        MetAgents x = new MetAgents();
        due.is("2: first", x.rule(0, 1, 2, 3), 1);
        due.is("2: the other order is another rule", x.rule(1, 0, 4, 5), 2);
        due.is("2: p and q the same", x.rule(5, 5, 5, 5), 3);
        rules("2: three", x, "0123", "1045", "5555");
        due.is("2: again", x.rule(0, 1, 3, 3), 3);
        rules("2: again", x, "1045", "5555", "0133");
        due.is("2: again the newest", x.rule(0, 1, 0, 0), 3);
        rules("2: again the newest", x, "1045", "5555", "0100");
        due.is("2: again one that comes to 0 0", x.rule(0, 1, 0, 0), 3);
        for (int bad : NO_STATES) {
            due.is("2: p " + bad, x.rule(bad, 0, 0, 0), UNKNOWN);
            due.is("2: q " + bad, x.rule(0, bad, 0, 0), UNKNOWN);
            due.is("2: x " + bad, x.rule(0, 1, bad, 0), UNKNOWN);
            due.is("2: y " + bad, x.rule(0, 1, 0, bad), UNKNOWN);
        }
        rules("2: refusals change nothing", x, "1045", "5555", "0100");
        MetAgents full = withTwelve();
        due.is("2: one more than 12", full.rule(2, 0, 1, 1), 12);
        rules("2: the oldest goes", full, "0154", "0254", "0354", "0454", "0554",
            "1054", "1154", "1254", "1354", "1454", "1554", "2011");
        MetAgents again = withTwelve();
        due.is("2: one of 12 again", again.rule(0, 3, 2, 2), 12);
        rules("2: only that one goes", again, "0054", "0154", "0254", "0454", "0554",
            "1054", "1154", "1254", "1354", "1454", "1554", "0322");
        due.is("2: the oldest of 12 again", again.rule(0, 0, 2, 2), 12);
        due.is("2: the oldest is the newest", again.ofRule(11, 0), 0);
        due.is("2: the next one is the oldest", again.ofRule(0, 1), 1);
        full.agents(2, 0, 0, 0, 0, 0);
        due.is("2: a rule that went is no more", full.meet(0, 1), 0);
    }

    private static void promise3() {
        MetAgents x = new MetAgents();
        due.is("3: none", x.unrule(0, 1), STATE);
        x.rule(0, 1, 2, 3);
        x.rule(1, 1, 2, 2);
        x.rule(2, 1, 0, 0);
        due.is("3: other order", x.unrule(1, 0), STATE);
        due.is("3: goes", x.unrule(1, 1), 2);
        rules("3: the middle one", x, "0123", "2100");
        due.is("3: gone", x.unrule(1, 1), STATE);
        for (int bad : NO_STATES) {
            due.is("3: p " + bad, x.unrule(bad, 0), UNKNOWN);
            due.is("3: q " + bad, x.unrule(0, bad), UNKNOWN);
        }
        rules("3: refusals change nothing", x, "0123", "2100");
        x.agents(1, 1, 0, 0, 0, 0);
        x.unrule(0, 1);
        due.is("3: it is no longer met by", x.meet(0, 1), 0);
        due.is("3: the last one", x.unrule(2, 1), 0);
        MetAgents full = withTwelve();
        due.is("3: of 12", full.unrule(0, 0), 11);
        due.is("3: room again", full.rule(3, 3, 3, 3), 12);
        due.is("3: the oldest stays", full.ofRule(0, 1), 1);
    }

    private static void promise4() {
        MetAgents x = withTwelve();
        due.is("4: LEADER", x.preset(0), 1);
        rules("4: LEADER", x, "0001");
        due.is("4: MAJORITY", x.preset(1), 6);
        rules("4: MAJORITY", x, "1032", "0123", "1213", "2131", "0302", "3020");
        due.is("4: HEAPS", x.preset(2), 6);
        rules("4: HEAPS", x, "1120", "1230", "2130", "2230", "3033", "0333");
        for (int bad : new int[] {LEAST, -1, 3, GREATEST}) {
            due.is("4: kind " + bad, x.preset(bad), OUTSIDE);
        }
        rules("4: refusals change nothing", x, "1120", "1230", "2130", "2230", "3033", "0333");
        x.tells(3, 2);
        x.weight(3, 4);
        x.seed(77);
        x.agents(0, 0, 0, 2, 0, 0);
        x.meet(0, 1);
        x.preset(0);
        due.is("4: tells stay", x.tells(3, 2), 2);
        due.is("4: weights stay", x.weight(3, 4), 14);
        due.is("4: the seed stays", x.seed(77), 77);
        due.is("4: agents stay", x.in(3), 2);
        due.is("4: meetings stay", x.many(2), 1);
        x.agents(0, 2, 0, 0, 0, 0);
        due.is("4: old rules are gone", x.meet(0, 1), 0);
    }

    private static void promise5() {
        MetAgents x = new MetAgents();
        x.rule(5, 4, 3, 2);
        x.rule(0, 1, 1, 0);
        rules("5", x, "5432", "0110");
        for (int bad : new int[] {LEAST, -1, 2, 12, GREATEST}) {
            due.is("5: k " + bad, x.ofRule(bad, 0), UNKNOWN);
            due.is("5: UNKNOWN ahead of OUTSIDE", x.ofRule(bad, 4), UNKNOWN);
        }
        for (int bad : new int[] {LEAST, -1, 4, GREATEST}) {
            due.is("5: what " + bad, x.ofRule(0, bad), OUTSIDE);
        }
    }

    private static void promise6() {
        MetAgents x = new MetAgents();
        for (int s = 0; s < 6; s++) {
            due.is("6: at first", x.tells(s, s % 3), 0);
        }
        for (int s = 0; s < 6; s++) {
            due.is("6: what it told", x.tells(s, 2), s % 3);
        }
        for (int bad : NO_STATES) {
            due.is("6: state " + bad, x.tells(bad, 0), UNKNOWN);
            due.is("6: UNKNOWN ahead of OUTSIDE", x.tells(bad, 3), UNKNOWN);
        }
        for (int bad : new int[] {LEAST, -1, 3, GREATEST}) {
            due.is("6: v " + bad, x.tells(0, bad), OUTSIDE);
        }
        due.is("6: refusals change nothing", x.tells(0, 0), 2);
    }

    private static void promise7() {
        MetAgents x = new MetAgents();
        due.is("7: two", x.agents(0, 0, 0, 0, 0, 2), 2);
        due.is("7: six", x.agents(1, 1, 1, 1, 1, 1), 6);
        for (int a = 0; a < 6; a++) {
            due.is("7: numbered by states", x.agent(a), a);
        }
        due.is("7: four", x.agents(0, 2, 0, 1, 1, 0), 4);
        int[] states = {1, 1, 3, 4};
        for (int a = 0; a < 4; a++) {
            due.is("7: agent " + a, x.agent(a), states[a]);
        }
        due.is("7: those before are gone", x.agent(4), UNKNOWN);
        x.rule(1, 1, 2, 2);
        x.seed(9);
        x.meet(0, 1);
        for (int[] bad : new int[][] {
            {0, 0, 0, 0, 0, 0}, {0, 0, 0, 0, 1, 0}, {1, 1, 1, 1, 1, 2}, {7, 0, 0, 0, 0, 0},
            {-1, 3, 0, 0, 0, 0}, {3, -1, 0, 0, 0, 0}, {3, 0, -1, 0, 0, 0}, {3, 0, 0, -1, 0, 0},
            {3, 0, 0, 0, -1, 0}, {3, 0, 0, 0, 0, -1}, {LEAST, LEAST, 3, 0, 0, 0},
            {GREATEST, GREATEST, 4, 0, 0, 0}, {GREATEST, GREATEST, 0, 0, 2, 2}}) {
            due.is("7: not 2 to 6", x.agents(bad[0], bad[1], bad[2], bad[3], bad[4], bad[5]), OUTSIDE);
        }
        due.is("7: refusals keep the agents", x.many(1), 4);
        due.is("7: refusals keep the meetings", x.many(2), 1);
        due.is("7: refusals keep the waits", x.waits(0, 1), 0);
        due.is("7: refusals keep the states", x.agent(0), 2);
        x.agents(2, 0, 0, 0, 0, 0);
        due.is("7: meetings begin anew", x.many(2), 0);
        due.is("7: changes begin anew", x.many(3), 0);
        due.is("7: waits begin anew", x.waits(1, 0), 0);
        x.meet(1, 0);
        due.is("7: waits count from the coming on", x.waits(0, 1), 1);
        due.is("7: the seed stays", x.seed(9), 9);
        due.is("7: rules stay", x.many(0), 1);
    }

    private static void promise8() {
        MetAgents x = new MetAgents();
        due.is("8: without agents", x.agent(0), UNKNOWN);
        x.agents(1, 0, 0, 0, 0, 1);
        due.is("8: first", x.agent(0), 0);
        due.is("8: last", x.agent(1), 5);
        for (int bad : new int[] {LEAST, -1, 2, 6, GREATEST}) {
            due.is("8: agent " + bad, x.agent(bad), UNKNOWN);
        }
    }

    private static void promise9() {
        MetAgents x = new MetAgents();
        due.is("9: UNKNOWN ahead of STATE", x.meet(0, 0), UNKNOWN);
        x.rule(0, 1, 2, 3);
        x.rule(2, 3, 2, 3);
        x.rule(3, 2, 2, 3);
        x.rule(4, 4, 4, 5);
        x.rule(5, 4, 0, 4);
        x.agents(1, 1, 0, 0, 2, 0);
        due.is("9: no rule for this order", x.meet(1, 0), 0);
        due.is("9: a change of both", x.meet(0, 1), 1);
        due.is("9: the first one", x.agent(0), 2);
        due.is("9: the second one", x.agent(1), 3);
        due.is("9: a rule without change", x.meet(0, 1), 0);
        due.is("9: both take the other's state", x.meet(1, 0), 1);
        due.is("9: taken", x.agent(1), 2);
        due.is("9: a change of the second alone", x.meet(2, 3), 1);
        due.is("9: the second one alone", x.agent(3), 5);
        due.is("9: a change of the first alone", x.meet(3, 2), 1);
        due.is("9: the first one alone", x.agent(3), 0);
        due.is("9: others stay", x.agent(2), 4);
        due.is("9: all count as meetings", x.many(2), 6);
        due.is("9: changes", x.many(3), 4);
        for (int bad : new int[] {LEAST, -1, 4, 6, GREATEST}) {
            due.is("9: first " + bad, x.meet(bad, 0), UNKNOWN);
            due.is("9: second " + bad, x.meet(0, bad), UNKNOWN);
            due.is("9: both " + bad, x.meet(bad, bad), UNKNOWN);
        }
        due.is("9: one", x.meet(3, 3), STATE);
        due.is("9: refusals change nothing", x.many(2), 6);
        x.rule(1, 1, 0, 0);
        x.agents(0, 2, 0, 0, 0, 0);
        due.is("9: both come to 0", x.meet(1, 0), 1);
        due.is("9: two in 0", x.in(0), 2);
    }

    private static void promise10() {
        MetAgents x = new MetAgents();
        due.is("10: at first", x.seed(LEAST), 1);
        due.is("10: least", x.seed(GREATEST), LEAST);
        due.is("10: greatest", x.seed(0), GREATEST);
        due.is("10: nought", x.seed(1), 0);
        x.agents(2, 0, 0, 0, 0, 0);
        x.run(1);
        due.is("10: behind a draw", x.seed(-1), 1103527590);
        x.run(1);
        due.is("10: behind a draw that wraps", x.seed(1), -1103502900);
        x.meet(0, 1);
        due.is("10: meetings by hand leave it", x.seed(1), 1);
    }

    private static void promise11() {
        MetAgents x = new MetAgents();
        due.is("11: no agents", x.run(1), STATE);
        due.is("11: OUTSIDE ahead of STATE", x.run(0), OUTSIDE);
        x.agents(3, 0, 0, 0, 0, 0);
        x.run(1); // upper bits 16838, by 6: 2
        due.is("11: first draw", x.waits(1, 0), 0);
        x.run(1); // upper bits 38526, by 6: 0
        due.is("11: second draw", x.waits(0, 1), 0);
        due.is("11: the seed wraps", x.seed(-1), -1770082073);
        x.agents(6, 0, 0, 0, 0, 0);
        x.run(1); // upper bits 48697, by 30: 7
        due.is("11: a draw of six", x.waits(1, 3), 0);
        due.is("11: none but these", x.unfair(0, 0), 29);
        for (int bad : new int[] {LEAST, -1, 0, 1001, GREATEST}) {
            due.is("11: m " + bad, x.run(bad), OUTSIDE);
        }
        due.is("11: refusals draw nothing", x.seed(1), -1103502900);
        due.is("11: refusals meet nothing", x.many(2), 1);
        x.rule(0, 0, 0, 1);
        due.is("11: as many changes as can be", x.run(1000), 5);
        due.is("11: meetings", x.many(2), 1001);
        due.is("11: changes", x.many(3), 5);
        x.rule(0, 1, 1, 0);
        x.rule(1, 0, 0, 1);
        x.agents(1, 1, 0, 0, 0, 0);
        due.is("11: a change each time", x.run(1000), 1000);
        due.is("11: one", x.run(1), 1);
    }

    private static void promise12() {
        MetAgents x = new MetAgents();
        due.is("12: UNKNOWN ahead of STATE", x.waits(0, 0), UNKNOWN);
        x.agents(0, 3, 0, 0, 0, 0);
        due.is("12: at first", x.waits(0, 1), 0);
        x.meet(0, 1);
        x.meet(1, 2);
        x.meet(2, 0);
        due.is("12: since two meetings", x.waits(0, 1), 2);
        due.is("12: since one", x.waits(1, 2), 1);
        due.is("12: just met", x.waits(2, 0), 0);
        due.is("12: the other order never", x.waits(1, 0), 3);
        x.meet(0, 1);
        due.is("12: met again", x.waits(0, 1), 0);
        due.is("12: others wait on", x.waits(1, 0), 4);
        for (int bad : new int[] {LEAST, -1, 3, 6, GREATEST}) {
            due.is("12: first " + bad, x.waits(bad, 0), UNKNOWN);
            due.is("12: second " + bad, x.waits(0, bad), UNKNOWN);
            due.is("12: both " + bad, x.waits(bad, bad), UNKNOWN);
        }
        due.is("12: one", x.waits(2, 2), STATE);
        for (int i = 0; i < 470; i++) {
            x.meet(0, 1);
        }
        due.is("12: long", x.waits(1, 0), 474);
    }

    private static void promise13() {
        MetAgents x = new MetAgents();
        due.is("13: no agents", x.unfair(0, 0), STATE);
        due.is("13: OUTSIDE ahead of STATE, v", x.unfair(-1, 0), OUTSIDE);
        due.is("13: OUTSIDE ahead of STATE, what", x.unfair(0, 2), OUTSIDE);
        x.agents(0, 3, 0, 0, 0, 0);
        due.is("13: nobody waits", x.unfair(0, 0), 0);
        due.is("13: no first", x.unfair(0, 1), NONE);
        x.meet(0, 1);
        x.meet(0, 2);
        x.meet(1, 0);
        due.is("13: above 0", x.unfair(0, 0), 5);
        due.is("13: the first above 0", x.unfair(0, 1), 1);
        due.is("13: above 1", x.unfair(1, 0), 4);
        due.is("13: above 2", x.unfair(2, 0), 3);
        due.is("13: the first above 2", x.unfair(2, 1), 12);
        x.meet(1, 2);
        due.is("13: the next first", x.unfair(3, 1), 20);
        due.is("13: none above 4", x.unfair(4, 0), 0);
        due.is("13: no first above 4", x.unfair(4, 1), NONE);
        due.is("13: greatest v", x.unfair(1000000, 0), 0);
        due.is("13: no first above the greatest v", x.unfair(1000000, 1), NONE);
        for (int bad : new int[] {LEAST, -1, 1000001, GREATEST}) {
            due.is("13: v " + bad, x.unfair(bad, 0), OUTSIDE);
        }
        for (int bad : new int[] {LEAST, -1, 2, GREATEST}) {
            due.is("13: what " + bad, x.unfair(0, bad), OUTSIDE);
        }
        x.agents(6, 0, 0, 0, 0, 0);
        x.meet(5, 4);
        due.is("13: of six", x.unfair(0, 0), 29);
    }

    private static void promise14() {
        MetAgents x = new MetAgents();
        due.is("14: without agents", x.in(5), 0);
        x.agents(0, 2, 0, 0, 0, 4);
        int[] many = {0, 2, 0, 0, 0, 4};
        for (int s = 0; s < 6; s++) {
            due.is("14: in " + s, x.in(s), many[s]);
        }
        x.rule(5, 5, 0, 1);
        x.meet(2, 3);
        due.is("14: behind a meeting, 0", x.in(0), 1);
        due.is("14: behind a meeting, 1", x.in(1), 3);
        due.is("14: behind a meeting, 5", x.in(5), 2);
        x.agents(6, 0, 0, 0, 0, 0);
        due.is("14: six in one", x.in(0), 6);
        for (int bad : NO_STATES) {
            due.is("14: state " + bad, x.in(bad), UNKNOWN);
        }
    }

    /** 0 turns to 1 where it meets one, in any order, and 1 tells 1. */
    private static MetAgents catching() {
        MetAgents x = new MetAgents();
        x.rule(0, 1, 1, 1);
        x.rule(1, 0, 1, 1);
        x.tells(1, 1);
        return x;
    }

    /** Two in 0 and 2 go to 1 and 2 and back, or for good to 3 and 3, which alone tells 1. */
    private static MetAgents toAndFro() {
        MetAgents x = new MetAgents();
        x.rule(0, 2, 1, 2);
        x.rule(1, 2, 0, 2);
        x.rule(2, 0, 3, 3);
        x.tells(3, 1);
        x.agents(1, 0, 1, 0, 0, 0);
        return x;
    }

    private static void reaches(String what, MetAgents x, int all, int agreed, int stable, int silent) {
        due.is(what + ", all", x.reached(0), all);
        due.is(what + ", AGREED", x.reached(1), agreed);
        due.is(what + ", STABLE", x.reached(2), stable);
        due.is(what + ", SILENT", x.reached(3), silent);
    }

    private static void promise15() {
        MetAgents x = new MetAgents();
        due.is("15: no agents", x.reached(0), STATE);
        for (int bad : new int[] {LEAST, -1, 4, GREATEST}) {
            due.is("15: what " + bad, x.reached(bad), OUTSIDE);
        }
        MetAgents c = catching();
        c.agents(3, 1, 0, 0, 0, 0);
        due.is("15: OUTSIDE with agents", c.reached(4), OUTSIDE);
        reaches("15: 3 and 1", c, 4, 1, 1, 1);
        c.meet(0, 3);
        reaches("15: of what there is now", c, 3, 1, 1, 1);
        c.tells(0, 1);
        reaches("15: all tell 1", c, 3, 3, 3, 1);
        c.agents(2, 0, 0, 0, 0, 0);
        reaches("15: one alone", c, 1, 1, 1, 1);
        MetAgents pair = new MetAgents();
        pair.rule(0, 0, 1, 1);
        pair.agents(1, 0, 0, 0, 0, 1);
        reaches("15: two of a state are needed", pair, 1, 1, 1, 1);
        pair.agents(2, 0, 0, 0, 0, 1);
        reaches("15: two of a state are there", pair, 2, 2, 2, 1);
        MetAgents round = new MetAgents();
        round.rule(0, 0, 1, 1);
        round.rule(1, 1, 0, 0);
        round.rule(0, 1, 1, 0);
        round.tells(1, 1);
        round.agents(2, 0, 0, 0, 0, 0);
        reaches("15: to and fro, AGREED by two numbers", round, 2, 2, 0, 0);
        round.agents(1, 1, 0, 0, 0, 0);
        reaches("15: to itself alone", round, 1, 0, 0, 1);
        reaches("15: all but one can come away", toAndFro(), 3, 3, 1, 1);
        MetAgents still = new MetAgents();
        still.rule(0, 1, 0, 1);
        still.agents(1, 1, 0, 0, 0, 0);
        reaches("15: a rule that is no change", still, 1, 1, 1, 1);
    }

    private static void promise16() {
        MetAgents x = new MetAgents();
        due.is("16: no agents", x.answer(), STATE);
        x.agents(1, 1, 0, 0, 0, 0);
        due.is("16: all tell 0", x.answer(), 0);
        x.tells(0, 2);
        due.is("16: not AGREED", x.answer(), NONE);
        x.tells(1, 2);
        due.is("16: all tell 2", x.answer(), 2);
        x.rule(0, 1, 3, 3);
        due.is("16: AGREED, but not for good", x.answer(), NONE);
        x.tells(3, 2);
        due.is("16: AGREED by the same for good", x.answer(), 2);
        x.tells(3, 1);
        x.meet(0, 1);
        due.is("16: behind a meeting", x.answer(), 1);
        x.rule(3, 3, 4, 4);
        x.rule(4, 4, 5, 5);
        x.tells(4, 1);
        x.tells(5, 0);
        due.is("16: another number two changes on", x.answer(), NONE);
        x.tells(5, 1);
        due.is("16: the same two changes on", x.answer(), 1);
    }

    private static void promise17() {
        MetAgents x = catching();
        due.is("17: no agents", x.decided(), STATE);
        x.agents(4, 1, 0, 0, 0, 0);
        due.is("17: all catch it", x.decided(), 1);
        x.agents(5, 0, 0, 0, 0, 0);
        due.is("17: nobody has it", x.decided(), 0);
        x.tells(0, 2);
        due.is("17: 2 is told", x.decided(), 2);
        MetAgents fork = new MetAgents();
        fork.rule(0, 1, 1, 1);
        fork.rule(1, 0, 0, 0);
        fork.tells(1, 1);
        fork.agents(1, 1, 0, 0, 0, 0);
        due.is("17: either may come", fork.decided(), NONE);
        due.is("17: both are STABLE", fork.reached(2), 2);
        MetAgents stuck = new MetAgents();
        stuck.rule(0, 1, 1, 1);
        stuck.rule(1, 0, 2, 3);
        stuck.tells(1, 1);
        stuck.tells(3, 1);
        stuck.agents(1, 1, 0, 0, 0, 0);
        due.is("17: a dead end that is not AGREED", stuck.decided(), NONE);
        due.is("17: a STABLE one is reached all the same", stuck.soonest(), 1);
        stuck.tells(2, 1);
        due.is("17: both ends tell 1", stuck.decided(), 1);
        due.is("17: by way of the beginning", toAndFro().decided(), 1);
        MetAgents round = new MetAgents();
        round.rule(0, 0, 1, 1);
        round.rule(1, 1, 0, 0);
        round.agents(2, 0, 0, 0, 0, 0);
        due.is("17: a round by one number", round.decided(), 0);
        round.tells(1, 1);
        due.is("17: a round by two numbers", round.decided(), NONE);
        round.rule(1, 1, 2, 2);
        round.tells(2, 2);
        due.is("17: the way out", round.decided(), 2);
    }

    private static void promise18() {
        MetAgents x = catching();
        due.is("18: no agents", x.soonest(), STATE);
        x.agents(5, 1, 0, 0, 0, 0);
        due.is("18: five catch it", x.soonest(), 5);
        x.agents(0, 6, 0, 0, 0, 0);
        due.is("18: it is STABLE", x.soonest(), 0);
        x.agents(5, 1, 0, 0, 0, 0);
        x.rule(0, 0, 1, 1);
        due.is("18: two at once, then one", x.soonest(), 3);
        x.preset(0);
        due.is("18: none is STABLE", x.soonest(), NONE);
        MetAgents y = new MetAgents();
        y.rule(0, 0, 2, 0);
        y.rule(2, 0, 1, 1);
        y.rule(0, 2, 3, 3);
        y.tells(2, 1);
        y.tells(1, 2);
        y.tells(3, 2);
        y.agents(2, 0, 0, 0, 0, 0);
        due.is("18: by two", y.soonest(), 2);
    }

    private static void promise19() {
        MetAgents x = catching();
        due.is("19: no agents", x.longest(), STATE);
        x.agents(5, 1, 0, 0, 0, 0);
        due.is("19: five", x.longest(), 5);
        x.rule(0, 0, 1, 1);
        due.is("19: the longer way", x.longest(), 5);
        x.agents(6, 0, 0, 0, 0, 0);
        due.is("19: two at first", x.longest(), 5);
        x.agents(0, 6, 0, 0, 0, 0);
        due.is("19: nothing changes", x.longest(), 0);
        x.rule(1, 1, 1, 1);
        due.is("19: a rule without change", x.longest(), 0);
        x.rule(2, 3, 3, 2);
        due.is("19: a round that is not reached", x.longest(), 0);
        x.agents(0, 0, 1, 1, 0, 0);
        due.is("19: two take each other's state", x.longest(), NONE);
        x.agents(0, 0, 2, 0, 0, 0);
        due.is("19: there is no other", x.longest(), 0);
        x.rule(2, 2, 2, 3);
        due.is("19: a round behind a change", x.longest(), NONE);
        x.unrule(2, 3);
        due.is("19: the round is gone", x.longest(), 1);
        x.rule(3, 2, 2, 2);
        due.is("19: back to the beginning", x.longest(), NONE);
        MetAgents ways = new MetAgents();
        ways.rule(0, 1, 2, 2);
        ways.rule(1, 0, 3, 3);
        ways.rule(3, 3, 2, 2);
        ways.agents(1, 1, 0, 0, 0, 0);
        due.is("19: the longer of two ways to one", ways.longest(), 2);
        ways.unrule(1, 0);
        due.is("19: the longer way is gone", ways.longest(), 1);
    }

    private static void share(String what, MetAgents x, int m, long upper, long lower) {
        due.is(what + ", upper", x.odds(m, 0), upper);
        due.is(what + ", lower", x.odds(m, 1), lower);
    }

    private static void promise20() {
        MetAgents x = new MetAgents();
        share("20: no agents", x, 0, Long.MIN_VALUE, Long.MIN_VALUE);
        x.rule(0, 1, 1, 1);
        x.tells(1, 1);
        x.agents(2, 1, 0, 0, 0, 0);
        share("20: no meeting", x, 0, 0, 1);
        share("20: one meeting", x, 1, 0, 1);
        share("20: two meetings", x, 2, 1, 9);
        share("20: three meetings", x, 3, 7, 27);
        for (int bad : new int[] {LEAST, -1, 13, GREATEST}) {
            share("20: m " + bad, x, bad, Long.MIN_VALUE, Long.MIN_VALUE);
        }
        for (int bad : new int[] {LEAST, -1, 2, GREATEST}) {
            due.is("20: which " + bad, x.odds(3, bad), Long.MIN_VALUE);
        }
        x.agents(0, 3, 0, 0, 0, 0);
        share("20: STABLE at once", x, 0, 1, 1);
        share("20: STABLE from the beginning on", x, 12, 1, 1);
        MetAgents y = new MetAgents();
        y.rule(0, 0, 1, 1);
        y.tells(1, 1);
        y.agents(2, 0, 0, 0, 0, 0);
        share("20: AGREED is not enough", y, 0, 0, 1);
        share("20: any meeting does it", y, 1, 1, 1);
        y.rule(0, 0, 2, 3);
        y.rule(2, 3, 3, 2);
        y.rule(3, 2, 1, 1);
        share("20: taking the other's state moves no further", y, 2, 1, 2);
        share("20: to and fro, two meetings", toAndFro(), 2, 1, 2);
        share("20: to and fro, three meetings", toAndFro(), 3, 5, 8);
        // 1 of 30 does it each time: 30 to the 12th less 29 to the 12th
        MetAgents z = new MetAgents();
        z.rule(0, 1, 2, 2);
        z.tells(0, 1);
        z.agents(1, 1, 4, 0, 0, 0);
        share("20: six agents, twelve meetings", z, 12,
            531441000000000000L - 353814783205469041L, 531441000000000000L);
        share("20: six agents, one meeting", z, 1, 1, 30);
    }

    private static void promise21() {
        MetAgents x = new MetAgents();
        due.is("21: at first", x.weight(0, -9), 10);
        due.is("21: least", x.weight(0, 9), 1);
        due.is("21: greatest", x.weight(0, 0), 19);
        due.is("21: another state", x.weight(5, 3), 10);
        for (int bad : NO_STATES) {
            due.is("21: state " + bad, x.weight(bad, 0), UNKNOWN);
            due.is("21: UNKNOWN ahead of OUTSIDE", x.weight(bad, 10), UNKNOWN);
        }
        for (int bad : new int[] {LEAST, -10, 10, GREATEST}) {
            due.is("21: v " + bad, x.weight(5, bad), OUTSIDE);
        }
        due.is("21: refusals change nothing", x.weight(5, 3), 13);
    }

    private static void promise22() {
        MetAgents x = new MetAgents();
        due.is("22: no agents", x.sum(), STATE);
        x.agents(2, 0, 3, 0, 0, 1);
        due.is("22: no weights", x.sum(), 1000);
        x.weight(0, -9);
        x.weight(1, 7);
        x.weight(2, 4);
        x.weight(5, 1);
        due.is("22: together", x.sum(), 995);
        x.rule(0, 2, 1, 1);
        x.meet(0, 2);
        due.is("22: behind a meeting", x.sum(), 1014);
        x.agents(6, 0, 0, 0, 0, 0);
        due.is("22: least", x.sum(), 946);
        x.weight(0, 9);
        due.is("22: greatest", x.sum(), 1054);
    }

    private static void promise23() {
        MetAgents x = new MetAgents();
        due.is("23: no rules", x.breaks(), NONE);
        x.rule(0, 1, 2, 3);
        due.is("23: no weights", x.breaks(), NONE);
        x.weight(0, 3);
        due.is("23: one side is heavier", x.breaks(), 0);
        x.weight(1, -1);
        x.weight(2, 2);
        due.is("23: as heavy again", x.breaks(), NONE);
        x.rule(4, 4, 4, 5);
        due.is("23: the second one keeps too", x.breaks(), NONE);
        x.weight(5, 9);
        due.is("23: the second one", x.breaks(), 1);
        x.rule(2, 2, 0, 0);
        due.is("23: the first of two", x.breaks(), 1);
        x.rule(4, 4, 4, 4);
        due.is("23: the last one as it went by", x.breaks(), 1);
        x.unrule(0, 1);
        due.is("23: counted from the oldest", x.breaks(), 0);
    }

    private static void promise24() {
        MetAgents x = new MetAgents();
        due.is("24: no rules", x.keepers(), 15625);
        x.weight(0, 9);
        due.is("24: whatever the weights are", x.keepers(), 15625);
        x.rule(0, 1, 1, 0);
        due.is("24: a rule that all keep", x.keepers(), 15625);
        x.rule(0, 0, 1, 1);
        due.is("24: two alike", x.keepers(), 3125);
        x.rule(2, 2, 2, 5);
        due.is("24: two and two alike", x.keepers(), 625);
        x.rule(3, 4, 4, 4);
        due.is("24: three twos alike", x.keepers(), 125);
        x.rule(0, 2, 3, 3);
        // a + b = 2c with each -2 .. 2: as many as twos a, b that are both even or both odd
        due.is("24: the middle of two", x.keepers(), 13);
        x.rule(0, 2, 2, 2);
        x.rule(2, 3, 3, 3);
        due.is("24: all alike", x.keepers(), 5);
        x.preset(0);
        due.is("24: LEADER", x.keepers(), 3125);
        x.preset(2);
        // w1 + w1 = w2 + w0, w1 + w2 = w3 + w0, 2 w2 = w3 + w0, w0 = w3
        due.is("24: HEAPS", x.keepers(), 125);
        x.rule(1, 0, 5, 5);
        x.rule(5, 4, 4, 4);
        due.is("24: all alike by HEAPS and two more", x.keepers(), 5);
        MetAgents y = new MetAgents();
        y.rule(0, 1, 2, 3);
        // 5^2 times the rows with w0 + w1 = w2 + w3: 1+4+9+16+25+16+9+4+1
        due.is("24: four states", y.keepers(), 25 * 85);
        y.rule(0, 1, 2, 2);
        due.is("24: three states", y.keepers(), 125 * 13);
    }

    private static void promise25() {
        MetAgents x = catching();
        for (int n = 2; n <= 6; n++) {
            due.is("25: ENOUGH 1 of " + n, x.wrong(n, 1, 1), NONE);
            due.is("25: ENOUGH 2 of " + n, x.wrong(n, 1, 2), 1);
            due.is("25: MOST of " + n, x.wrong(n, 0, 1), 1);
            due.is("25: REST 1 of " + n, x.wrong(n, 2, 1), 0);
        }
        due.is("25: no agents came", x.many(1), 0);
        x.agents(0, 0, 2, 0, 0, 0);
        x.wrong(6, 0, 1);
        due.is("25: agents stay", x.in(2), 2);
        MetAgents all = new MetAgents();
        all.tells(0, 1);
        all.tells(1, 1);
        due.is("25: REST 1 is always 1", all.wrong(6, 2, 1), NONE);
        due.is("25: 1 of 2 is left", all.wrong(6, 2, 2), 1);
        due.is("25: fewer than 6 are not enough", all.wrong(6, 1, 6), 0);
        due.is("25: all of them", new MetAgents().wrong(2, 1, 2), 2);
        due.is("25: no rules, nothing but 0 told", new MetAgents().wrong(2, 2, 2), 0);
        // 1 and 4 carry what is left by 2 (1 and 0) and tell the others, 2 and 3, what they know
        MetAgents parity = new MetAgents();
        parity.rule(1, 1, 4, 3);
        parity.rule(4, 4, 4, 3);
        parity.rule(1, 4, 1, 2);
        parity.rule(4, 1, 2, 1);
        parity.rule(1, 0, 1, 2);
        parity.rule(1, 3, 1, 2);
        parity.rule(4, 2, 4, 3);
        parity.rule(4, 0, 4, 3);
        parity.tells(0, 1);
        parity.tells(3, 1);
        parity.tells(4, 1);
        for (int n = 2; n <= 6; n++) {
            due.is("25: REST 2 of " + n, parity.wrong(n, 2, 2), NONE);
        }
        due.is("25: REST 3", parity.wrong(6, 2, 3), 2);
        MetAgents most = new MetAgents();
        most.preset(1);
        most.tells(1, 1);
        most.tells(3, 1);
        int[] ofMost = {1, NONE, 2, NONE, 3};
        for (int n = 2; n <= 6; n++) {
            due.is("25: MAJORITY of " + n, most.wrong(n, 0, 6), ofMost[n - 2]);
        }
        MetAgents tie = new MetAgents();
        tie.rule(0, 1, 2, 2);
        tie.rule(1, 0, 2, 2);
        tie.tells(1, 1);
        tie.tells(2, 2);
        due.is("25: as many is 2", tie.wrong(2, 0, 1), NONE);
        for (int bad : new int[] {LEAST, -1, 0, 1, 7, GREATEST}) {
            due.is("25: n " + bad, x.wrong(bad, 0, 1), OUTSIDE);
        }
        for (int bad : new int[] {LEAST, -1, 3, GREATEST}) {
            due.is("25: kind " + bad, x.wrong(3, bad, 1), OUTSIDE);
        }
        for (int bad : new int[] {LEAST, -1, 0, 7, GREATEST}) {
            for (int kind = 0; kind <= 2; kind++) {
                due.is("25: kind " + kind + ", k " + bad, x.wrong(3, kind, bad), OUTSIDE);
            }
        }
    }

    private static void promise26() {
        MetAgents x = new MetAgents();
        x.preset(1);
        x.agents(2, 2, 0, 0, 0, 0);
        x.meet(0, 2);
        x.meet(0, 2);
        x.meet(0, 1);
        due.is("26: RULES", x.many(0), 6);
        due.is("26: AGENTS", x.many(1), 4);
        due.is("26: MEETINGS", x.many(2), 3);
        due.is("26: CHANGES", x.many(3), 1);
        x.run(10);
        due.is("26: MEETINGS by draws", x.many(2), 13);
        for (int bad : new int[] {LEAST, -1, 4, GREATEST}) {
            due.is("26: what " + bad, x.many(bad), OUTSIDE);
        }
        for (int i = 0; i < 450; i++) {
            x.run(1000);
        }
        due.is("26: many MEETINGS", x.many(2), 450013);
        x.agents(2, 0, 0, 0, 0, 0);
        due.is("26: since they came", x.many(2), 0);
    }

    /** As many configurations as six agents can have. */
    private static void widest() {
        MetAgents x = new MetAgents();
        for (int s = 0; s < 6; s++) {
            x.rule(s, s, s, (s + 1) % 6);
            x.rule(s, (s + 1) % 6, s, s);
        }
        x.agents(6, 0, 0, 0, 0, 0);
        reaches("widest", x, 462, 462, 462, 0);
        due.is("widest: longest", x.longest(), NONE);
        share("widest: odds", x, 12, 1, 1);
        for (int i = 0; i < 400; i++) {
            due.is("widest: wrong", x.wrong(6, 2, 1), 0);
        }
    }
}
