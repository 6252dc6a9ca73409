import java.util.ArrayList;
import java.util.List;

/** Lands in known states, and all that can be seen of them, part by part, in less than 512 calls. */
final class Lands {
    static final int PARTS = 9;

    private Lands() {
    }

    /** Sheets 0 to 2 are of lanes 0 to 2, sheet 3 has nothing. */
    private static void fillSheets(DryLand x) {
        Check.row(x, 0, 0, Check.codes("m1>10@5-8!dv"));
        Check.row(x, 1, 1, Check.codes("s*@8-9"));
        Check.row(x, 2, 2, 1, 2, 3, 10);
    }

    /** Some of everything: 3 lines, 5 steps, 2 doctors, 3 agents, trucks, casks, persons, 4 papers, cases, 2 towns. */
    static DryLand some() {
        DryLand x = new DryLand();
        fillSheets(x);
        x.text(0, 0, 0, 12);
        x.text(1, 1, 0, 6);
        x.text(1, 1, 0, 6);
        x.strike(1, 9);
        x.step(0, 1, 0, 1, 20, 4);
        x.step(1, 11, 2, 2, 5, 4);
        x.step(0, 11, 1, 0, 0, 4);
        x.step(0, 2, 3, 3, 99, 0);
        x.step(2, 11, 3, 3, 99, 0);
        x.doctor(1);
        x.doctor(2);
        for (int s = 0; s < 5; s++) {
            x.slip(0, s, 3);
        }
        x.slip(1, 0, 3);
        x.agent(2, 2, 0, 3);
        x.agent(2, 2, 0, 1);
        x.agent(2, 2, 1, 2);
        x.truck(0, 1, 2, 2, 0, 1);
        x.truck(0, 0, 2, 2, 1, 2);
        x.truck(5, -1, 2, 2, 2, 1);
        someCasks(x);
        x.raid(false);
        x.raid(true);
        x.paper(1);
        x.paper(3);
        x.court(2, 200);
        x.sue(100, 5, 3);
        x.sue(150, 5, 9);
        x.sue(200, 6, 0);
        x.sue(201, 7, 9);
        x.juror(1, 3);
        x.juror(2, 5);
        x.miles(5);
        x.town(20, 30);
        x.town(0, 5);
        x.week(0, 10);
        return x;
    }

    private static void someCasks(DryLand x) {
        for (int k = 0; k < 3; k++) {
            x.cask(k, 10 + k);
            x.person();
        }
        x.drank(0, 0, 5);
        x.drank(0, 1, 5);
        x.fell(0, true, 10);
        x.drank(1, 0, 20);
        x.fell(1, false, 20);
        x.drank(2, 2, 30);
        x.tell(1);
        x.hang(2);
    }

    /** As many of everything as there may ever be. */
    static DryLand full() {
        DryLand x = new DryLand();
        fillSheets(x);
        for (int k = 0; k < 24; k++) {
            x.text(0, 0, 0, 12);
            x.step(k % 11, 1 + k % 11, k % 4, k % 3, 4 * k, 4);
        }
        x.strike(23, 7);
        for (int d = 0; d < 6; d++) {
            x.doctor(1);
        }
        for (int s = 0; s < 40; s++) {
            x.slip(s % 6, s % 30, s % 7);
        }
        for (int a = 0; a < 8; a++) {
            x.agent(2, 2, a % 3, 1);
        }
        for (int t = 0; t < 12; t++) {
            x.truck(t, t % 4 == 0 ? 1 : -1, 2, 2, t % 3, 1);
        }
        fullCasks(x);
        for (int p = 0; p < 24; p++) {
            if (p % 3 == 0) {
                x.raid(p % 2 == 0);
            } else {
                x.paper(1 << p - 1 | 1 << p / 2);
            }
        }
        for (int c = 0; c < 30; c++) {
            x.sue(10 * (c + 1), c % 5, c % 10);
        }
        for (int k = 0; k < 12; k++) {
            x.juror(k + 1, 20);
        }
        for (int t = 0; t < 6; t++) {
            x.town(10 * t, 100 * t);
        }
        return x;
    }

    private static void fullCasks(DryLand x) {
        for (int k = 0; k < 12; k++) {
            x.cask(k % 3, k);
            x.person();
        }
        for (int f = 0; f < 48; f++) {
            x.drank(f % 12, f / 5, f);
        }
        for (int f = 48; f < 60; f++) {
            x.fell(f % 12, f % 3 != 0, f);
        }
    }

    /** What is seen of a part; the asking may change the land, so each part wants a land of its own. */
    static List<Long> seen(DryLand x, int part) {
        List<Long> seen = new ArrayList<>();
        switch (part) {
            case 1 -> seeLines(x, seen);
            case 2 -> seeSteps(x, seen);
            case 3 -> seeSlips(x, seen);
            case 4 -> seeNights(x, seen);
            case 5 -> seeCasks(x, seen);
            case 6 -> seePapers(x, seen);
            case 7 -> seeCourts(x, seen);
            case 8 -> seeSeaAndTowns(x, seen);
            default -> seeSheets(x, seen);
        }
        return seen;
    }

    private static void see(List<Long> seen, long... answers) {
        for (long answer : answers) {
            seen.add(answer);
        }
    }

    private static void seeLines(DryLand x, List<Long> seen) {
        see(seen, x.many(0), x.force(4), x.force(5), x.force(7), x.force(8), x.force(9));
        for (int l = 0; l < x.many(0); l++) {
            see(seen, x.line(l, 0), x.line(l, 1), x.line(l, 2), x.line(l, 3), x.line(l, 4), x.line(l, 5),
                x.line(l, 6));
        }
        see(seen, x.line(x.many(0), 0));
    }

    private static void seeSteps(DryLand x, List<Long> seen) {
        see(seen, x.many(1));
        for (int day : new int[] {0, 6, 8}) {
            for (int i = -1; i <= 11; i++) {
                see(seen, x.least(day, i));
            }
        }
        see(seen, x.more(8, 1, 1, 0, 6), x.more(6, 0, 0, 0, 12), x.step(0, 11, 0, 0, 0, 0), x.least(0, 0));
    }

    private static void seeSlips(DryLand x, List<Long> seen) {
        see(seen, x.many(2), x.twice());
        for (int d = 0; d <= 6; d++) {
            see(seen, x.tooMany(d, -1), x.tooMany(d, 0), x.tooMany(d, 1));
        }
        see(seen, x.doctor(1), x.slip(0, 0, 3), x.twice());
    }

    private static void seeNights(DryLand x, List<Long> seen) {
        see(seen, x.many(3), x.many(4), x.worlds());
        for (int a = 0; a <= 8; a++) {
            see(seen, x.sure(0, a));
        }
        for (int t = 0; t <= 12; t++) {
            see(seen, x.meets(t), x.sure(1, t), x.came(t, 1));
        }
        see(seen, x.worlds(), x.agent(2, 2, 0, 3), x.truck(0, 0, 2, 2, 0, 3), x.meets(x.many(4) - 1));
    }

    private static void seeCasks(DryLand x, List<Long> seen) {
        see(seen, x.trace(), x.many(5), x.many(6), x.many(7));
        for (int day : new int[] {0, 10, 20, 55, 99}) {
            for (int what = 0; what <= 5; what++) {
                see(seen, x.cut(day, what));
            }
        }
        for (int c = 0; c <= 12; c++) {
            see(seen, x.knew(c), x.tell(c), x.hang(c), x.as(c, 1), x.as(c, 2));
        }
        see(seen, x.cask(0, 0), x.person(), x.fell(0, true, 0), x.cut(99, 4), x.trace());
    }

    private static void seePapers(DryLand x, List<Long> seen) {
        see(seen, x.many(8), x.voids(), x.worst());
        for (int p = 0; p <= 24; p++) {
            see(seen, x.saved(p));
        }
        for (int p = 0; p <= 24; p++) {
            see(seen, x.met(p, true));
        }
        see(seen, x.raid(false), x.voids());
    }

    private static void seeCourts(DryLand x, List<Long> seen) {
        see(seen, x.many(9), x.many(11), x.waiting(0), x.waiting(5), x.waiting(99));
        for (int c = 0; c < x.many(9); c++) {
            see(seen, x.heard(c, 0), x.heard(c, 1), x.heard(c, 2), x.heard(c, 3), x.heard(c, 4));
        }
        for (int what = 0; what <= 2; what++) {
            see(seen, x.jury(what, 0), x.jury(what, 1));
        }
        see(seen, x.sue(200, 5, 9), x.heard(0, 3), x.dismiss());
    }

    private static void seeSeaAndTowns(DryLand x, List<Long> seen) {
        see(seen, x.many(10), x.chase(2, 9, 0, 0, 2, 9, 1), x.chase(3, 9, 0, 0, 3, 9, 1), x.miles(7));
        for (int t = 0; t <= 6; t++) {
            see(seen, x.ofTown(t, 0), x.ofTown(t, 1), x.ofTown(t, 2), x.ofTown(t, 3), x.ofTown(t, 4));
        }
        see(seen, x.town(1, 1), x.week(0, 1), x.ofTown(0, 2));
    }

    private static void seeSheets(DryLand x, List<Long> seen) {
        for (int k = 0; k <= 3; k++) {
            for (int i = 0; i <= 13; i++) {
                see(seen, x.cell(k, i, k % 3), x.fault());
            }
            see(seen, x.cell(k, 0, (k + 1) % 3), x.fault());
        }
        for (int k = 0; k <= 3; k++) {
            see(seen, x.lose(k));
        }
    }
}
