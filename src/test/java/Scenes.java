/** Objects with which several tests begin. */
final class Scenes {
    private Scenes() {
    }

    /** A POST 0 with this zero, and NOW. */
    static Gauge at(String title, int zero, int now) {
        Gauge x = new Gauge(title);
        x.due(0, "post", zero);
        if (now > 0) x.due(now, "go", now);
        return x;
    }

    /** Three POINTS: 100 -> 50, 200 -> 150, 300 -> 450, at TIMES 1, 2, 3, as known on 20. */
    static Gauge curve(String title) {
        Gauge x = at(title, 0, 20);
        x.due(0, "height", 0, 1, 0, 100).due(1, "height", 0, 2, 0, 200).due(2, "height", 0, 3, 0, 300);
        x.due(0, "measure", 0, 1, 50, 5).due(1, "measure", 0, 2, 150, 10).due(2, "measure", 0, 3, 450, 7);
        return x;
    }

    /** A base by which the flow is the height, from 0 to 1000, for POST 0, whose NOW is 50. */
    static Gauge level(String title) {
        return at(title, 0, 50).due(1, "base", 0, 0, 0, 0).due(2, "base", 0, 1, 1000, 1000);
    }

    /** POST 0 has these HEIGHTS and FLOWS at TIMES 1, 2 and so on. */
    static Gauge measured(Gauge x, int[] reads, int[] flows, int wrong) {
        for (int i = 0; i < reads.length; i++) {
            x.due(i, "height", 0, i + 1, 0, reads[i]).due(i, "measure", 0, i + 1, flows[i], wrong);
        }
        return x;
    }
}
