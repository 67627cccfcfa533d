/** Desks in states from which refused calls and other edges are tried. */
final class Desks {
    private Desks() {
    }

    /** Some of everything, something else kept, a fraction told that is not whole. */
    static GuardDesk furnished() {
        GuardDesk x = new GuardDesk();
        x.target(0, 5, -5, 6, 12);
        x.put(0, 21);
        x.road(0, 1, 5);
        x.post(2);
        x.haunt(3, 5);
        x.guards(3);
        x.keep();
        x.target(1, 2, -3, 4, 5);
        x.target(2, 3, -1, 7, 6);
        x.target(3, 1, 0, 3, 3);
        x.bounds(2, 0, 40);
        x.bounds(3, 10, 50);
        x.put(0, 33);
        x.put(3, 17);
        x.guards(2);
        x.road(0, 1, 9);
        x.road(1, 9, 20);
        x.bar(0, true);
        x.every(0, 3);
        x.post(4);
        x.haunt(4, 6);
        x.sheet(0, 0, 5);
        x.write(0, 4, 44);
        x.sheet(1, 1, 6);
        x.write(1, 5, 55);
        x.sheet(2, 2, 7);
        x.write(2, 6, 66);
        x.drop();
        x.target(3, 4, 1, 2, 2);
        x.bounds(3, 10, 50);
        x.put(3, 19);
        x.handWorth();
        return x;
    }

    /** As much of everything as there may be, kept too; a fraction told that is not whole. */
    static GuardDesk full() {
        GuardDesk x = new GuardDesk();
        for (int t = 0; t < 10; t++) {
            x.target(t == 0 ? 0 : t % 4, 10 + t, t - 10, 20 - t, Due.GAPS[t]);
            x.put(t, t % 4 == 1 ? 0 : 3 + t);
        }
        x.guards(10);
        for (int r = 0; r < 16; r++) {
            x.road(r % 9, r % 9 + 1, 1 + r);
            x.bar(r, r % 5 == 4);
        }
        for (int p = 0; p < 5; p++) {
            x.post(4 + p);
        }
        for (int h = 0; h < 20; h++) {
            x.haunt(1 + 51 * h, 1000 - h);
        }
        for (int s = 0; s < 4; s++) {
            x.sheet(s, s % 3, 40);
            x.write(s, 0, 11 + s);
            x.write(s, 39, 22 + s);
        }
        x.keep();
        x.put(9, 0);
        x.guards(9);
        x.handWorth();
        return x;
    }
}
