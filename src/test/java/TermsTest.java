/** The sentences of the Terms, I to VII, each at its edges: the title of an object tells the sentence. */
public final class TermsTest {
    public static void main(String[] args) {
        times();
        days();
        years();
        zeros();
        heights();
        flowsLet();
        flowsCount();
        bytesThatStand();
        longTexts();
        lastText();
        deepTexts();
        heldSums();
        inForce();
        lettersOfStrike();
        lettersOfFill();
        lettersOfPublish();
        lettersOfOthers();
        stretches();
        points();
        between();
        below();
        beyond();
        ice();
        weed();
        howWrong();
        breaks();
        rivals();
        bases();
        rowsThatProve();
        gapEnds();
        neighbours();
        filled();
        peaks();
        often();
        lags();
        means();
        next();
        published();
        mend();
        allHeights();
        calls();
        Gauge.end();
    }

    private static void times() {
        Gauge x = Scenes.at("I: TIMES are from 0 on, 9999 at most", 0, 9999);
        x.due(0, "height", 0, 0, 0, 10).due(1, "height", 0, 9999, 0, 20).due(10, "heightAt", 0, 0, 9999)
            .due(20, "heightAt", 0, 9999, 9999);
        x.due(0, "measure", 0, 0, 100, 0).due(1, "measure", 0, 9999, 300, 0).due(2, "points", 0, 0, 9999)
            .due(2, "points", 0, 9999, 9999);
        x.due(15, "next", 0).due(1, "moved", 0, 5, 9999).due(25, "heightAt", 0, 9999, 9999).due(10, "heightAt", 0, 0, 9999);
        x.due(2, "moved", 0, 1, 0).due(11, "heightAt", 0, 0, 9999).due(1, "zeroAt", 0, 9998, 9999)
            .due(25, "heightAt", 0, 9999, 9999);
        x.due(1, "stretch", 0, 9999).due(1, "points", 0, 9998, 9999).due(1, "points", 0, 9999, 9999);
        x.due(100, "flowOf", 0, 0, 9999, 0).due(300, "flowOf", 0, 9999, 9999, 0).due(1, "under", 0, 0, 0, 0, 50);
        x.due(50, "flowOf", 0, 0, 9999, 0).due(2, "under", 0, 0, 9999, 9999, 10).due(270, "flowOf", 0, 9999, 9999, 0);
        x.due(0, "publish", 0, 0).due(1, "publish", 0, 9999).due(50, "peak", 0, 0, 0, 9999)
            .due(270, "peak", 0, 9999, 9999, 9999);
        x.due(2, "stretch", 0, 0).due(1, "points", 0, 0, 9999).refused(-5, "gap", 0, 1, 0);
        Gauge y = new Gauge("I: NOW goes on from 0");
        y.due(0, "count", 0).due(0, "post", 0).due(0, "height", 0, 0, 0, 7).due(7, "heightAt", 0, 0, 0)
            .due(0, "measure", 0, 0, 5, 0);
        y.due(5, "flowOf", 0, 0, 0, 0).due(1, "go", 1).due(1, "count", 0).due(1, "height", 0, 1, 0, 8)
            .refused(-5, "heightAt", 0, 1, 0);
    }

    private static void days() {
        Gauge x = Scenes.at("I: a DAY is 96 TIMES, by its number, cut", 0, 0);
        x.standard("d*100+m=r", 0, 0).due(200, "go", 200);
        int[] times = {0, 1, 94, 95, 96, 97, 191, 192, 193};
        int[] reads = {0, 1, 94, 95, 100, 101, 195, 200, 201};
        for (int i = 0; i < times.length; i++) {
            x.due(2 * i, "height", 0, times[i], 0, reads[i]).due(1, "isStruck", 2 * i, 200);
            x.due(2 * i + 1, "height", 0, times[i], 1, reads[i] + 1).due(0, "isStruck", 2 * i + 1, 200);
        }
        Gauge y = Scenes.at("I: 9999 is on DAY 104, which begins at 9984", 0, 9999);
        y.standard("d=104&m<16", 0, 104).due(0, "height", 0, 9999, 0, 1).due(1, "isStruck", 0, 9999);
        y.due(1, "height", 0, 9984, 0, 1).due(1, "isStruck", 1, 9999).due(2, "height", 0, 9983, 0, 1)
            .due(0, "isStruck", 2, 9999);
        y.standard("d=104&m=15", 0, 104).due(1, "isStruck", 0, 9999).due(0, "isStruck", 1, 9999);
    }

    private static void years() {
        Gauge x = Scenes.at("I: a YEAR is 1000 TIMES, by its number, cut", 0, 9999);
        int[] times = {0, 999, 1000, 1999, 2000, 2999, 8999, 9000, 9999, 5000, 5001, 4999};
        int[] due = {1, 1, 2, 2, 3, 3, 4, 5, 5, 6, 6, 7};
        for (int i = 0; i < times.length; i++) {
            x.due(i, "height", 0, times[i], 0, 10 + i);
            if (i == 0) x.due(0, "measure", 0, 0, 100, 0);
            x.due(due[i], "often", 0, 100);
        }
        Gauge y = Scenes.at("I: all ten YEARS", 0, 9999);
        for (int i = 0; i < 20; i++) y.due(i, "height", 0, i / 2 * 1000 + i % 2 * 999, 0, 10);
        y.due(0, "measure", 0, 0, 7, 0).due(10, "often", 0, 7).due(0, "often", 0, 8);
        for (int i = 0; i < 9; i++) y.due(1, "strike", 19 - 2 * i).due(10 - i, "often", 0, 7)
            .due(1, "strike", 18 - 2 * i).due(9 - i, "often", 0, 7);
    }

    private static void zeros() {
        Gauge x = Scenes.at("I: ZEROS are of one POST", 7, 10);
        x.due(1, "post", -3).due(1, "moved", 1, 50, 3).due(7, "zeroAt", 0, 5, 10).due(50, "zeroAt", 1, 5, 10);
        x.due(50, "zeroAt", 1, 3, 10).due(-3, "zeroAt", 1, 2, 10).due(-3, "zeroAt", 1, 3, 9).due(2, "moved", 0, 60, 4);
        x.due(60, "zeroAt", 0, 4, 10).due(7, "zeroAt", 0, 3, 10).due(50, "zeroAt", 1, 4, 10).due(7, "zeroAt", 0, 4, 9);
        x.due(3, "moved", 0, -999, 0).due(-999, "zeroAt", 0, 0, 10).due(-999, "zeroAt", 0, 3, 10)
            .due(60, "zeroAt", 0, 4, 10);
        x.due(4, "moved", 0, 999, 0).due(999, "zeroAt", 0, 0, 10).due(60, "zeroAt", 0, 9999, 10);
        Gauge y = Scenes.at("I: KNOWN from NOW on, of one TIME the one told last", 1, 5);
        for (int i = 0; i < 5; i++) y.due(i + 1, "moved", 0, 10 + i, 5).due(6 + i, "go", 1);
        for (int i = 0; i < 5; i++) y.due(10 + i, "zeroAt", 0, 5, 5 + i);
        y.due(1, "zeroAt", 0, 5, 4).due(1, "zeroAt", 0, 4, 9999).due(14, "zeroAt", 0, 5, 9999);
        Gauge z = Scenes.at("I: the ZERO with which a POST came is there from 0 on", 0, 50);
        z.due(1, "post", 9).due(9, "zeroAt", 1, 0, 0);
    }

    private static void heights() {
        Gauge x = Scenes.at("I: READ is 0 .. 9999, by PEN and by HAND", -999, 10);
        x.due(0, "height", 0, 1, 0, 0).due(1, "height", 0, 2, 0, 9999).due(2, "height", 0, 3, 1, 0)
            .due(3, "height", 0, 4, 1, 9999);
        x.due(-999, "heightAt", 0, 1, 10).due(9000, "heightAt", 0, 2, 10).due(-999, "heightAt", 0, 3, 10)
            .due(9000, "heightAt", 0, 4, 10);
        x.due(1, "moved", 0, 999, 4).due(10998, "heightAt", 0, 4, 10).due(1, "post", 999).due(4, "height", 1, 10, 1, 0)
            .due(999, "heightAt", 1, 10, 10);
        x.refused(-5, "heightAt", 0, 0, 10).refused(-5, "heightAt", 0, 5, 10).refused(-5, "heightAt", 1, 1, 10)
            .refused(-5, "heightAt", 0, 10, 10);
        Gauge y = Scenes.at("I: of those known by K the HAND told last, else the PEN told last", 0, 5);
        y.due(0, "height", 0, 5, 0, 1).due(6, "go", 1).due(1, "height", 0, 5, 0, 2).due(7, "go", 1)
            .due(2, "height", 0, 5, 1, 3);
        y.due(8, "go", 1).due(3, "height", 0, 5, 1, 4).due(9, "go", 1).due(4, "height", 0, 5, 0, 5).due(10, "go", 1)
            .due(5, "height", 0, 5, 0, -1);
        y.refused(-5, "heightAt", 0, 5, 4).due(1, "heightAt", 0, 5, 5).due(2, "heightAt", 0, 5, 6)
            .due(3, "heightAt", 0, 5, 7);
        y.due(4, "heightAt", 0, 5, 8).due(4, "heightAt", 0, 5, 9).due(4, "heightAt", 0, 5, 10)
            .due(4, "heightAt", 0, 5, 9999);
        y.due(11, "go", 1).due(1, "strike", 3).due(12, "go", 1).due(1, "strike", 2).due(13, "go", 1).due(1, "strike", 4);
        y.due(4, "heightAt", 0, 5, 10).due(3, "heightAt", 0, 5, 11).due(5, "heightAt", 0, 5, 12)
            .due(2, "heightAt", 0, 5, 13);
        y.due(14, "go", 1).due(1, "strike", 1).due(15, "go", 1).due(1, "strike", 0).due(1, "heightAt", 0, 5, 14)
            .refused(-5, "heightAt", 0, 5, 15);
        Gauge z = Scenes.at("I: a STUCK pen is none, and does not hide one", 0, 5);
        z.due(0, "height", 0, 5, 0, -1).refused(-5, "heightAt", 0, 5, 5).due(0, "isStruck", 0, 5).refused(-3, "strike", 0);
        z.due(1, "height", 0, 5, 0, 0).due(0, "heightAt", 0, 5, 5).due(2, "height", 0, 5, 0, -1).due(0, "heightAt", 0, 5, 5);
    }

    /** Whether a FLOW lets a height, by a base by which the flow is the height: judged by one SHIFT for one HEIGHT. */
    private static void lets(boolean does, int flow, int wrong, int height) {
        Gauge x = Scenes.at("I: a FLOW of " + flow + " wrong by " + wrong + " at " + height, 0, 50);
        x.due(1, "base", 0, 0, 0, 0).due(2, "base", 0, 1, 99999, 99999).due(0, "height", 0, 1, 0, Math.min(height, 9999));
        x.due(0, "measure", 0, 1, flow, wrong).due(1, "put", 0).due(2, "put", height - Math.min(height, 9999))
            .due(does ? -9 : 1, "judge", 0);
    }

    private static void flowsLet() {
        // 199 by 50 hundredths is 99, cut: 100 .. 298.
        lets(false, 199, 50, 99);
        lets(true, 199, 50, 100);
        lets(true, 199, 50, 298);
        lets(false, 199, 50, 299);
        lets(true, 0, 0, 0);
        lets(false, 0, 0, 1);
        lets(true, 0, 99, 0);
        lets(false, 0, 99, 1);
        lets(false, 500, 0, 499);
        lets(true, 500, 0, 500);
        lets(false, 500, 0, 501);
        // 101 by 99 hundredths is 99: 2 .. 200; 1 by 99 is 0; 99999 by 99 is 98999: from 1000 on.
        lets(false, 101, 99, 1);
        lets(true, 101, 99, 2);
        lets(true, 101, 99, 200);
        lets(false, 101, 99, 201);
        lets(true, 1, 99, 1);
        lets(false, 1, 99, 0);
        lets(false, 1, 99, 2);
        lets(false, 99999, 99, 999);
        lets(true, 99999, 99, 1000);
        lets(true, 99999, 99, 10049);
    }

    private static void flowsCount() {
        Gauge x = Scenes.at("I: a FLOW counts if known, not told STRUCK, and with a HEIGHT of that POST and TIME", 0, 5);
        x.due(1, "post", 0).due(0, "height", 0, 5, 0, -1).due(1, "height", 0, 4, 0, 1).due(2, "height", 1, 5, 0, 1)
            .due(6, "go", 1);
        x.due(0, "measure", 0, 5, 10, 0).due(0, "counts", 0, 6).due(7, "go", 1).due(3, "height", 0, 5, 0, 1).due(8, "go", 1);
        x.due(1, "drop", 0).due(0, "counts", 0, 5).due(0, "counts", 0, 6).due(1, "counts", 0, 7).due(0, "counts", 0, 8)
            .due(0, "counts", 0, 9999);
        Gauge y = Scenes.at("I: a FLOW does not count where the TEXT strikes its HEIGHT", 0, 5);
        y.due(0, "height", 0, 5, 0, 1).due(0, "measure", 0, 5, 10, 0).due(1, "counts", 0, 5).due(6, "go", 1)
            .standard("r=1", 0, 0);
        y.due(0, "counts", 0, 6).due(1, "counts", 0, 5).refused(-5, "flowOf", 0, 5, 6, 0).due(10, "flowOf", 0, 5, 5, 0)
            .due(0, "points", 0, 5, 6);
    }

    /** Each byte behind a text: with some it stands, behind some it lacks something, all others can not stand. */
    private static void bytes(String text, String stand, String lack) {
        for (int b = 0; b < 256; b++) {
            Gauge x = new Gauge("II: FAULT is the place of the first byte that can not stand: " + text + " and " + b);
            boolean stands = stand.indexOf(b) >= 0;
            int place = lack.indexOf(b) >= 0 ? text.length() + 1 : text.length();
            x.feed(text).due(text.length() + 1, "feed", 1, b).due(stands ? 0 : -20 - place, "standard", 2, 0);
            x.due(stands ? 1 : 0, "count", 6).due(0, "count", 9);
        }
    }

    private static void bytesThatStand() {
        String digits = "0123456789";
        String letters = "dmrkabghnfwxi";
        bytes("", "", digits + letters + "!(");
        bytes("!", "", digits + letters + "!(");
        bytes("(", "", digits + letters + "!(");
        bytes("1", "", digits + "+-*<=>");
        bytes("99999", "", "+-*<=>");
        bytes("r", "", "+-*<=>");
        bytes("1+", "", digits + letters);
        bytes("1-", "", digits + letters);
        bytes("1*", "", digits + letters);
        bytes("1<", digits + letters, "");
        bytes("1=", digits + letters, "");
        bytes("1>", digits + letters, "");
        bytes("1=1", digits, "+-*&|");
        bytes("1=99999", "", "+-*&|");
        bytes("1=x", "", "+-*&|");
        bytes("1=1&", "", digits + letters + "!(");
        bytes("1=1|", "", digits + letters + "!(");
        bytes("(1=1", ")", digits + "+-*&|");
        bytes("(1=1)", "", "&|");
        bytes("!(1=1)", "", "&|");
        bytes("((1=1)", ")", "&|");
        bytes("(((((", "", digits + letters);
        bytes("!!!!!", "", digits + letters);
        bytes("((!((", "", digits + letters);
        bytes("((((", "", digits + letters + "!(");
    }

    private static void longTexts() {
        Gauge x = Scenes.at("II: TEXTS have 60 bytes at most", 0, 1);
        x.due(0, "height", 0, 1, 0, 1).standard("1+".repeat(28) + "1<29", 0, 0).due(0, "isStruck", 0, 1);
        x.standard("1+".repeat(28) + "1<30", 0, 0).due(1, "isStruck", 0, 1);
        x.feed("1+".repeat(29) + "1<").due(-80, "standard", 0, 0).feed("1+".repeat(28) + "1<9)").due(-79, "standard", 0, 0);
        x.feed("1+".repeat(30)).due(-80, "standard", 0, 0).feed("1".repeat(60)).due(-25, "standard", 0, 0);
        x.feed("1=1&".repeat(15)).due(-80, "standard", 0, 0).standard("1=1&".repeat(14) + "1=11", 0, 0)
            .due(0, "isStruck", 0, 1);
        x.standard("1=2|".repeat(14) + "1=01", 0, 0).due(1, "isStruck", 0, 1).standard("1=2|".repeat(14) + "11=1", 0, 0)
            .due(0, "isStruck", 0, 1);
        x.feed("1=1&".repeat(15)).refused(-6, "feed", 1, '1').due(-80, "standard", 0, 0);
        x.due(-20, "standard", 0, 0).standard("1<2", 0, 0).due(1, "isStruck", 0, 1);
        x.standard("1=2|1=2|1=2|1=2|1=2|1=2|1=2|1=2|1=2|1=2|1=2|1=2|1=2|1=2|1=1", 0, 0).due(1, "isStruck", 0, 1);
    }

    private static void lastText() {
        Gauge x = Scenes.at("II: 20 STANDARDS of 60 bytes, the last of them too", 0, 1);
        for (int i = 0; i < 20; i++) x.standard("!" + "1+".repeat(28) + (i < 10 ? "1<0" : "1>9"), 0, i % 2);
        x.due(0, "height", 0, 1, 0, 1).due(0, "isStruck", 0, 1).due(96, "go", 95).due(1, "height", 0, 96, 0, 1)
            .due(0, "isStruck", 1, 96);
        Gauge y = Scenes.at("II: 20 STANDARDS of 60 bytes, the last of which holds", 0, 1);
        for (int i = 0; i < 20; i++) y.standard("!" + "1+".repeat(28) + (i < 19 ? "1>9" : "1<9"), 0, 0);
        y.due(0, "height", 0, 1, 0, 1).due(1, "isStruck", 0, 1);
    }

    private static void deepTexts() {
        String[] stand = {"!!!!!1=2", "(((((1=1)))))", "!(!(!1=2))", "((!!(1=1)))", "!!!!!1=2&!!!!!1=2",
            "(((((1=1)))))|(((((1=1)))))", "((((!1=2))))&((((!1=2))))", "!!!!(1=1|1=1&!2=3)"};
        // The last one has a sixth in it, at 13.
        int[] holds = {1, 1, 1, 1, 1, 1, 1, -1};
        for (int i = 0; i < stand.length; i++) {
            Gauge x = Scenes.at("II: 5 deep at most, together: " + stand[i], 0, 1).feed(stand[i]);
            if (holds[i] < 0) x.due(-33, "standard", 0, 0);
            else x.due(0, "standard", 0, 0).due(0, "height", 0, 1, 0, 1).due(holds[i], "isStruck", 0, 1);
        }
        String[] fail = {"!!!!!!1=2", "((((((1=1))))))", "!(!(!(1=2)))", "((!!((1=1))))", "(((((!1=2)))))", "!!!!!(1=2)",
            "1=1&!!!!!!1=2", "(1=1)&((((((1=1))))))", "!!!(1=1|!1=2)&(1=1|((((1=1&(1=1"};
        int[] places = {5, 5, 5, 5, 5, 5, 9, 11, 27};
        for (int i = 0; i < fail.length; i++) {
            Gauge x = new Gauge("II: a sixth's own place: " + fail[i]).feed(fail[i]);
            x.due(-20 - places[i], "standard", 0, 0).due(0, "count", 6);
        }
    }

    private static void holds(int struck, String text) {
        Gauge x = Scenes.at("II: SUM from the left on, held: " + text, 0, 1);
        x.standard(text, 0, 0).due(0, "height", 0, 1, 0, 1).due(struck, "isStruck", 0, 1);
    }

    private static void heldSums() {
        // 99999 times 10000 is 999990000: 10000 more is just the greatest.
        holds(1, "99999*10000+9999<99999*10000+10000");
        holds(1, "99999*10000+10001=99999*10000+10000");
        holds(0, "99999*10000+10001>99999*10000+10000");
        holds(1, "0-99999*10000-9999>0-99999*10000-10000");
        holds(1, "0-99999*10000-10001=0-99999*10000-10000");
        holds(1, "99999*99999-1<99999*99999");
        holds(1, "99999*99999*99999-1=99999*10000+9999");
        holds(1, "0-99999*99999*99999+1=0-99999*10000-9999");
        holds(1, "99999*99999+1-1<99999*99999");
        holds(1, "2+3*4=20");
        holds(1, "20-3-4=13");
        holds(1, "2*3+4*5=50");
        holds(1, "5-7<0");
        holds(0, "5-7>0");
        holds(1, "00000=0");
        // "!" turns each kind of TEST.
        holds(0, "!1<2");
        holds(1, "!2<2");
        holds(0, "!2>1");
        holds(1, "!2>2");
        holds(0, "!2=2");
        holds(1, "!2=1");
        holds(0, "!(1=1&2=2)");
        holds(1, "!(1=1&2=1)");
        holds(0, "!(1=2|2=2)");
        holds(1, "!(1=2|2=1)");
        holds(1, "!!(1=1&2=2)");
        holds(1, "!!(1=2|2=2)");
        holds(0, "!!!1<2");
        holds(1, "00007=7");
        holds(1, "99999>99998");
        holds(0, "0=1");
    }

    private static void inForce() {
        Gauge x = Scenes.at("II: in force is the latest DAY not behind it, whatever was told first", 0, 0);
        x.standard("r=2", 0, 2).standard("r=1", 0, 1).standard("r=9", 1, 2).standard("r=9", 2, 1).due(300, "go", 300);
        int[] times = {0, 95, 96, 191, 192, 287, 288, 300};
        int[] due = {0, 0, 1, 1, 2, 2, 2, 2};
        for (int i = 0; i < times.length; i++) {
            x.due(2 * i, "height", 0, times[i], 0, 1).due(2 * i + 1, "height", 0, times[i], 0, 2);
            x.due(due[i] == 1 ? 1 : 0, "isStruck", 2 * i, 300).due(due[i] == 2 ? 1 : 0, "isStruck", 2 * i + 1, 300);
        }
        Gauge y = Scenes.at("II: of several of one DAY the one told last, as told by K", 0, 5);
        y.due(0, "height", 0, 5, 0, 1).due(6, "go", 1).standard("r=1", 0, 0).due(7, "go", 1).standard("r=2", 0, 0)
            .due(8, "go", 1).standard("r<2", 0, 0);
        y.due(0, "isStruck", 0, 5).due(1, "isStruck", 0, 6).due(0, "isStruck", 0, 7).due(1, "isStruck", 0, 8)
            .due(1, "isStruck", 0, 9999);
        y.standard("r=7", 0, 1).due(1, "isStruck", 0, 8).standard("r=7", 0, 0).due(0, "isStruck", 0, 8);
        Gauge z = Scenes.at("II: FILL and PUBLISH by the one in force on the DAY of the TIME", 0, 0);
        z.standard("1=2", 1, 1).standard("1=2", 2, 1).standard("1=1", 1, 2).standard("1=1", 2, 2).due(400, "go", 400);
        int[] at = {94, 96, 190, 192};
        for (int i = 0; i < 4; i++) z.due(2 * i, "height", 0, at[i], 0, 5).due(2 * i + 1, "height", 0, at[i] + 2, 0, 5);
        z.due(0, "measure", 0, 94, 7, 0).due(5, "gap", 0, 95, 0).refused(-3, "gap", 0, 97, 0)
            .refused(-3, "gap", 0, 191, 0).due(5, "gap", 0, 193, 0);
        z.due(0, "publish", 0, 94).refused(-3, "publish", 0, 96).refused(-3, "publish", 0, 190).due(1, "publish", 0, 192);
        z.standard("1=1", 1, 4).standard("1=1", 2, 4).refused(-3, "gap", 0, 191, 0).refused(-3, "publish", 0, 190);
        Gauge w = Scenes.at("II: of several of one DAY, FILL and PUBLISH too", 0, 10);
        w.due(0, "height", 0, 1, 0, 5).due(1, "height", 0, 3, 0, 5).due(0, "measure", 0, 1, 7, 0).due(5, "gap", 0, 2, 0)
            .due(0, "publish", 0, 1);
        w.standard("1=2", 1, 0).refused(-3, "gap", 0, 2, 0).due(1, "publish", 0, 1).standard("1=2", 2, 0)
            .refused(-3, "publish", 0, 1);
        w.standard("1=1", 1, 0).due(5, "gap", 0, 2, 0).standard("1=1", 2, 0).due(2, "publish", 0, 1)
            .standard("1=2", 2, 200).due(3, "publish", 0, 1);
    }

    private static void lettersOfStrike() {
        Gauge x = Scenes.at("II: r is READ, not the HEIGHT; k is 0 and 1", 7, 10);
        x.standard("r=0&k=0|r=9999&k=1", 0, 0).due(0, "height", 0, 1, 0, 0).due(1, "height", 0, 2, 1, 0)
            .due(2, "height", 0, 3, 0, 9999);
        x.due(3, "height", 0, 4, 1, 9999).due(1, "isStruck", 0, 10).due(0, "isStruck", 1, 10).due(0, "isStruck", 2, 10)
            .due(1, "isStruck", 3, 10);
        Gauge y = Scenes.at("II: a and b, from the one of the greatest TIME and number ahead", 0, 9999);
        y.standard("a=9999&b=9999", 0, 104).due(0, "height", 0, 0, 0, 0).due(1, "height", 0, 9999, 0, 9999)
            .due(1, "isStruck", 1, 9999);
        y.standard("a=0&b=0", 0, 104).due(2, "height", 0, 9999, 1, 9999).due(1, "isStruck", 2, 9999)
            .due(0, "isStruck", 1, 9999);
        y.standard("a=9999&b=0", 0, 104).due(3, "height", 0, 9999, 0, 0).due(1, "isStruck", 3, 9999)
            .due(0, "isStruck", 2, 9999);
        y.standard("a=0&b=9999", 0, 104).due(4, "height", 0, 9998, 0, 5).due(0, "isStruck", 1, 9999).due(1, "post", 0);
        y.due(5, "height", 1, 9999, 0, 3).due(1, "isStruck", 5, 9999).standard("a=9994&b=1", 0, 104)
            .due(1, "isStruck", 1, 9999);
        Gauge z = Scenes.at("II: the one ahead is known by K, neither STUCK nor told STRUCK by K", 0, 10);
        z.standard("a=10&b=1", 0, 0).due(0, "height", 0, 4, 0, 30).due(1, "height", 0, 6, 0, 50)
            .due(0, "isStruck", 1, 10).due(11, "go", 1);
        z.due(2, "height", 0, 5, 0, 40).due(1, "isStruck", 1, 11).due(0, "isStruck", 1, 10).due(12, "go", 1)
            .due(3, "height", 0, 5, 0, 39);
        z.due(0, "isStruck", 1, 12).due(1, "isStruck", 1, 11).due(13, "go", 1).due(1, "strike", 3)
            .due(1, "isStruck", 1, 13).due(0, "isStruck", 1, 12);
        z.due(4, "height", 0, 5, 0, -1).due(1, "isStruck", 1, 13).due(5, "height", 0, 7, 0, 60).due(1, "isStruck", 5, 13)
            .due(0, "isStruck", 0, 13);
        Gauge w = Scenes.at("II: without a STANDARD none is STRUCK, with one only what its TEXT strikes", 0, 10);
        w.due(0, "height", 0, 1, 0, 1).due(0, "isStruck", 0, 10).standard("1=1", 1, 0).standard("1=1", 2, 0)
            .due(0, "isStruck", 0, 10);
        w.due(1, "height", 0, 2, 0, -1).standard("1=1", 0, 0).due(1, "isStruck", 0, 10).due(0, "isStruck", 1, 10)
            .due(0, "isStruck", 0, 9);
    }

    private static void lettersOfFill() {
        Gauge x = Scenes.at("II: g is the TIMES between the ends, from 2 to 200", 0, 400);
        x.due(0, "height", 0, 10, 0, 0).due(1, "height", 0, 12, 0, 0).due(2, "height", 0, 212, 0, 0)
            .standard("g=2|g=200", 1, 4).due(0, "gap", 0, 11, 0);
        x.due(3, "height", 0, 384, 0, 0).due(4, "height", 0, 386, 0, 0).due(0, "gap", 0, 385, 0)
            .due(5, "height", 0, 389, 0, 0);
        x.refused(-3, "gap", 0, 387, 0).refused(-3, "gap", 0, 388, 0).standard("g=3", 1, 4).due(0, "gap", 0, 387, 0)
            .refused(-3, "gap", 0, 385, 0);
        Gauge w = Scenes.at("II: g of 200", 0, 0);
        w.standard("g=200", 1, 0).due(300, "go", 300).due(0, "height", 0, 0, 0, 5).due(1, "height", 0, 200, 0, 5)
            .due(5, "gap", 0, 1, 0);
        w.due(5, "gap", 0, 199, 0).due(2, "height", 0, 199, 0, 5).refused(-3, "gap", 0, 1, 0);
        Gauge y = Scenes.at("II: h is how many POSTS have a HEIGHT at its TIME, from 0 to 5", 0, 10);
        for (int post = 1; post < 6; post++) y.due(post, "post", 0);
        y.due(0, "height", 5, 1, 0, 5).due(1, "height", 5, 3, 0, 5);
        for (int many = 0; many <= 5; many++) {
            if (many > 0) y.due(many + 1, "height", many - 1, 2, 0, 1);
            for (int h = 0; h <= 6; h++) {
                if (Math.abs(h - many) > 1) continue;
                y.standard("h=" + h, 1, 0);
                if (h == many) y.due(5, "gap", 5, 2, 0);
                else y.refused(-3, "gap", 5, 2, 0);
            }
        }
        Gauge z = Scenes.at("II: n is the NEIGHBOUR that is taken, from 0 to 5, 99 without one", 0, 10);
        for (int post = 1; post < 6; post++) z.due(post, "post", 0);
        z.due(0, "height", 5, 1, 0, 5).due(1, "height", 5, 3, 0, 5).due(2, "height", 0, 1, 0, 5)
            .due(3, "height", 0, 3, 0, 5);
        z.standard("n=99", 1, 0).due(5, "gap", 5, 2, 0).due(-1, "beside", 5, 0).due(5, "gap", 5, 2, 0)
            .due(4, "height", 0, 2, 0, 6).refused(-3, "gap", 5, 2, 0);
        z.standard("n=0", 1, 0).due(6, "gap", 5, 2, 0).due(1, "strike", 4).refused(-3, "gap", 5, 2, 0)
            .due(-1, "beside", 0, 5);
        z.due(5, "height", 5, 2, 0, 8).standard("n=5", 1, 0).due(8, "gap", 0, 2, 0);
    }

    private static void lettersOfPublish() {
        Gauge x = Scenes.at("II: f is what was reckoned, from 0 to 99999999", 0, 20);
        x.due(0, "height", 0, 1, 0, 10).due(1, "height", 0, 2, 0, 11).due(2, "height", 0, 3, 0, 9999)
            .due(0, "measure", 0, 1, 0, 0).due(1, "measure", 0, 2, 99999, 0);
        x.standard("f=0", 2, 0).due(0, "publish", 0, 1).refused(-3, "publish", 0, 2).standard("f=99999", 2, 0)
            .due(1, "publish", 0, 2);
        x.standard("f=99999*1000+999", 2, 0).due(2, "publish", 0, 3).due(1, "under", 0, 0, 2, 2, 50)
            .standard("f=50000", 2, 0).due(3, "publish", 0, 2);
        Gauge y = Scenes.at("II: w is how far it may be wrong, x 1 if BEYOND", 0, 20);
        y.due(0, "height", 0, 1, 0, 10).due(1, "height", 0, 2, 0, 11).due(0, "measure", 0, 1, 5, 0)
            .standard("w=0&x=0", 2, 0).due(0, "publish", 0, 1);
        y.refused(-3, "publish", 0, 2).standard("w=10&x=1", 2, 0).due(1, "publish", 0, 2).refused(-3, "publish", 0, 1)
            .due(1, "measure", 0, 1, 5, 99);
        y.standard("w=99&x=0", 2, 0).due(2, "publish", 0, 1).standard("w=100&x=1", 2, 0).due(3, "publish", 0, 2)
            .due(2, "measure", 0, 2, 5, 0);
        y.refused(-3, "publish", 0, 2).standard("w=99&x=0", 2, 0).due(4, "publish", 0, 2);
        Gauge z = Scenes.curve("II: i is 1 if ICE or WEED is on, of that POST, there");
        z.due(1, "post", 0).standard("i=1", 2, 0).due(1, "under", 1, 0, 0, 9, 5).refused(-3, "publish", 0, 2)
            .due(2, "under", 0, 0, 3, 3, 5);
        z.refused(-3, "publish", 0, 2).due(0, "publish", 0, 3).due(3, "under", 0, 0, 1, 1, 5)
            .refused(-3, "publish", 0, 2).due(1, "publish", 0, 1);
        z.due(4, "under", 0, 1, 0, 2, 7).due(2, "publish", 0, 2).standard("i=0", 2, 0).refused(-3, "publish", 0, 1)
            .refused(-3, "publish", 0, 2);
    }

    private static void lettersOfOthers() {
        Gauge x = Scenes.at("II: letters of other PURPOSES are 0, whatever was asked ahead", 0, 10);
        x.due(1, "post", 0).due(0, "height", 0, 1, 0, 40).due(1, "height", 0, 3, 1, 60).due(2, "height", 1, 1, 0, 5)
            .due(3, "height", 1, 3, 0, 5);
        x.due(4, "height", 1, 2, 0, 5).due(-1, "beside", 0, 1).due(0, "measure", 0, 1, 7, 9).due(1, "under", 0, 0, 1, 3, 0);
        x.standard("r*k*a*b>0&r=0", 0, 0).standard("r+k+a+b+f+w+x+i=0&g*h*n>0", 1, 0).due(50, "gap", 0, 2, 0);
        x.standard("r+k+a+b+g+h+n=0&f*w*x*i>0", 2, 0).refused(-3, "publish", 0, 1).due(0, "publish", 0, 3);
        x.due(5, "height", 0, 5, 1, 70).due(0, "isStruck", 5, 10).standard("g+h+n+f+w+x+i=0&r*k*a*b>0", 0, 0)
            .due(1, "isStruck", 5, 10);
        x.due(0, "isStruck", 0, 10).due(1, "isStruck", 1, 10).refused(-5, "gap", 0, 2, 0).due(6, "height", 0, 3, 0, 60)
            .due(50, "gap", 0, 2, 0);
        x.due(1, "publish", 0, 3).due(50, "gap", 0, 2, 0).due(2, "publish", 0, 3).due(7, "height", 0, 6, 1, 80)
            .due(1, "isStruck", 7, 10);
    }

    private static void stretches() {
        Gauge x = Scenes.at("III: a STRETCH is from a TIME on, up to the next one's", 0, 50);
        for (int i = 0; i < 6; i++) x.due(i, "height", 0, 10 * i, 0, 10 * i + 1).due(i, "measure", 0, 10 * i, 10 * i + 5, i);
        x.due(6, "points", 0, 0, 50).due(6, "points", 0, 9999, 50).due(1, "stretch", 0, 20).due(2, "points", 0, 0, 50)
            .due(2, "points", 0, 19, 50);
        x.due(4, "points", 0, 20, 50).due(21, "point", 0, 20, 50, 0, 0).due(51, "point", 0, 9999, 50, 3, 0)
            .due(11, "point", 0, 19, 50, 1, 0);
        x.due(2, "stretch", 0, 41).due(3, "points", 0, 20, 50).due(3, "points", 0, 40, 50).due(1, "points", 0, 41, 50)
            .due(51, "point", 0, 41, 50, 0, 0);
        x.due(3, "stretch", 0, 21).due(1, "points", 0, 20, 50).due(2, "points", 0, 21, 50)
            .due(31, "point", 0, 21, 50, 0, 0).due(2, "points", 0, 19, 50);
        x.due(4, "stretch", 0, 0).due(2, "points", 0, 0, 50).due(5, "stretch", 0, 1).due(1, "points", 0, 0, 50)
            .due(1, "points", 0, 1, 50);
        x.due(5, "flowOf", 0, 0, 50, 0).due(0, "flowOf", 0, 0, 50, 1).due(15, "flowOf", 0, 10, 50, 0)
            .due(1, "flowOf", 0, 10, 50, 1);
        x.due(1, "post", 0).due(6, "height", 1, 0, 0, 5).due(6, "measure", 1, 0, 9, 0).due(1, "points", 1, 0, 50)
            .due(1, "points", 1, 9999, 50);
        Gauge y = Scenes.curve("III: a STRETCH is of one POST, and FLOWS of its TIMES alone make its CURVE");
        y.due(1, "post", 0).due(1, "stretch", 1, 2).due(3, "points", 0, 0, 20).due(3, "points", 0, 2, 20)
            .due(1, "stretch", 0, 4).due(3, "points", 0, 3, 20);
        y.due(0, "points", 0, 4, 20).refused(-5, "flowAt", 0, 4, 100).due(50, "flowAt", 0, 3, 100)
            .due(3, "height", 0, 4, 0, 5).refused(-5, "flowOf", 0, 4, 20, 0);
        y.refused(-5, "publish", 0, 4).refused(-5, "peak", 0, 4, 4, 20).due(450, "peak", 0, 0, 4, 20).due(150, "next", 0);
    }

    private static void points() {
        Gauge x = Scenes.at("III: POINTS by HEIGHTS, of one HEIGHT one POINT, its flow cut", 0, 20);
        int[] reads = {7, 3, 7, 5, 7};
        int[] flows = {20, 1, 21, 2, 21};
        Scenes.measured(x, reads, flows, 0).due(3, "points", 0, 0, 20).due(3, "point", 0, 0, 20, 0, 0)
            .due(5, "point", 0, 0, 20, 1, 0);
        x.due(7, "point", 0, 0, 20, 2, 0).due(1, "point", 0, 0, 20, 0, 1).due(2, "point", 0, 0, 20, 1, 1)
            .due(20, "point", 0, 0, 20, 2, 1);
        // READ 9 with a ZERO of -4 is 5 as well: 2 and 3 make 2.
        x.due(1, "moved", 0, -4, 10).due(5, "height", 0, 10, 0, 9).due(5, "measure", 0, 10, 3, 0)
            .due(3, "points", 0, 0, 20).due(2, "point", 0, 0, 20, 1, 1);
        x.due(2, "moved", 0, -3, 10).due(4, "points", 0, 0, 20).due(6, "point", 0, 0, 20, 2, 0)
            .due(3, "point", 0, 0, 20, 2, 1);
        blocks(new int[] {10, 9}, new int[] {9, 9});
        blocks(new int[] {10, 10}, new int[] {10, 10});
        blocks(new int[] {10, 11}, new int[] {10, 11});
        blocks(new int[] {0, 0, 0}, new int[] {0, 0, 0});
        blocks(new int[] {5, 4, 3, 2, 1}, new int[] {3, 3, 3, 3, 3});
        blocks(new int[] {1, 5, 4, 3, 9}, new int[] {1, 4, 4, 4, 9});
        blocks(new int[] {4, 6, 8, 0, 20}, new int[] {4, 4, 4, 4, 20});
        blocks(new int[] {4, 6, 8, 3, 7}, new int[] {4, 5, 5, 5, 7});
        blocks(new int[] {99999, 0}, new int[] {49999, 49999});
        blocks(new int[] {7}, new int[] {7});
        Gauge y = Scenes.at("III: a block has sums and how many", 0, 20);
        // One of 10; three of 4, 4 and 5 at one HEIGHT: 23 by 4. Means alone would make 7.
        Scenes.measured(y, new int[] {1, 2, 2, 2}, new int[] {10, 4, 4, 5}, 0).due(5, "point", 0, 0, 20, 0, 1)
            .due(5, "point", 0, 0, 20, 1, 1);
        // 23 by 4 is not above 6 by 1, but 23 by 4 and 5 by 1 are: 28 by 5.
        y.due(4, "height", 0, 9, 0, 9).due(4, "measure", 0, 9, 6, 0).due(6, "point", 0, 0, 20, 2, 1)
            .due(5, "point", 0, 0, 20, 1, 1);
        Gauge z = Scenes.at("III: 60 FLOWS of the greatest number", 0, 60);
        for (int i = 0; i < 60; i++) z.due(i, "height", 0, i, 0, i / 30).due(i, "measure", 0, i, 99999, 99);
        z.due(2, "points", 0, 0, 60).due(99999, "point", 0, 0, 60, 0, 1).due(99999, "point", 0, 0, 60, 1, 1);
        Gauge w = Scenes.at("III: 60 POINTS", 0, 60);
        for (int i = 0; i < 60; i++) w.due(i, "height", 0, i, 0, 59 - i).due(i, "measure", 0, i, i, 0);
        w.due(60, "points", 0, 0, 60).due(0, "point", 0, 0, 60, 0, 0).due(59, "point", 0, 0, 60, 59, 0)
            .due(29, "point", 0, 0, 60, 0, 1).due(29, "point", 0, 0, 60, 59, 1);
        w.refused(-5, "point", 0, 0, 60, 60, 0);
    }

    private static void blocks(int[] flows, int[] due) {
        Gauge x = Scenes.at("III: that none falls: " + java.util.Arrays.toString(flows), 0, 20);
        int[] reads = new int[flows.length];
        for (int i = 0; i < reads.length; i++) reads[i] = 10 * i;
        Scenes.measured(x, reads, flows, 0).due(due.length, "points", 0, 0, 20);
        for (int i = 0; i < due.length; i++) x.due(10 * i, "point", 0, 0, 20, i, 0).due(due[i], "point", 0, 0, 20, i, 1);
    }

    private static void between() {
        Gauge x = Scenes.at("III: at a POINT its flow, between two cut", -10, 20);
        Scenes.measured(x, new int[] {0, 3, 13, 14}, new int[] {5, 15, 16, 16}, 0);
        int[] due = {5, 8, 11, 15, 15, 15, 15, 15, 15, 15, 15, 15, 15, 16, 16, 16};
        for (int i = 0; i < due.length; i++) x.due(due[i], "flowAt", 0, 0, -10 + i);
        Gauge y = Scenes.at("III: between the farthest POINTS", -999, 20);
        y.due(1, "moved", 0, 999, 2).due(0, "height", 0, 1, 0, 0).due(1, "height", 0, 2, 0, 9999)
            .due(0, "measure", 0, 1, 0, 0).due(1, "measure", 0, 2, 99999, 0);
        y.due(0, "flowAt", 0, 0, -999).due(8, "flowAt", 0, 0, -998).due(49995, "flowAt", 0, 0, 4999)
            .due(99990, "flowAt", 0, 0, 10997).due(99999, "flowAt", 0, 0, 10998);
    }

    private static void below() {
        Gauge x = Scenes.at("III: below the lowest, 0 at LOW or below", -999, 20);
        x.due(0, "height", 0, 1, 0, 0).due(0, "measure", 0, 1, 1001, 0).due(1001, "flowAt", 0, 0, -999)
            .due(1000, "flowAt", 0, 0, -1000);
        x.due(1, "flowAt", 0, 0, -1999).due(0, "flowAt", 0, 0, -2000).due(0, "flowAt", 0, 0, -2001)
            .due(0, "flowAt", 0, 0, -9999);
        x.due(-2000, "low", 0, -1000).due(0, "flowAt", 0, 0, -1000).due(1001, "flowAt", 0, 0, -999)
            .due(-1000, "low", 0, -999);
        x.due(1001, "flowAt", 0, 0, -1000).due(1001, "flowAt", 0, 0, -9999).due(-999, "low", 0, -998)
            .due(1001, "flowAt", 0, 0, -1000);
        x.due(-998, "low", 0, 9999).due(1001, "flowAt", 0, 0, -9999).due(1001, "flowAt", 0, 0, 99999)
            .due(9999, "low", 0, -1001);
        x.due(500, "flowAt", 0, 0, -1000).due(0, "flowAt", 0, 0, -1001).due(1001, "flowAt", 0, 0, -999);
        Gauge y = Scenes.at("III: LOW as far as 9999, and of one POST", 999, 20);
        y.due(0, "height", 0, 1, 0, 9999).due(0, "measure", 0, 1, 99999, 0).due(-2000, "low", 0, 9999)
            .due(0, "flowAt", 0, 0, 9999);
        y.due(100, "flowAt", 0, 0, 10000).due(99898, "flowAt", 0, 0, 10997).due(99999, "flowAt", 0, 0, 10998)
            .due(1, "post", 0);
        y.due(1, "height", 1, 1, 0, 100).due(1, "measure", 1, 1, 2100, 0).due(1000, "flowAt", 1, 0, -1000)
            .due(-2000, "low", 1, 0).due(21, "flowAt", 1, 0, 1);
        y.due(100, "flowAt", 0, 0, 10000).due(2, "height", 1, 2, 0, 0).due(0, "flowOf", 1, 2, 20, 0)
            .due(0, "flowOf", 1, 2, 20, 2);
    }

    private static void beyond() {
        Gauge x = Scenes.at("III: BEYOND by the last two POINTS, 99999999 at most", 0, 20);
        // 9999 and 1111 times 90000 is 99999999 just.
        Scenes.measured(x, new int[] {5, 10, 11}, new int[] {9999, 9999, 99999}, 3).due(189999, "flowAt", 0, 0, 12)
            .due(99909999, "flowAt", 0, 0, 1120);
        x.due(99999999, "flowAt", 0, 0, 1121).due(99999999, "flowAt", 0, 0, 1122).due(99999999, "flowAt", 0, 0, 99999);
        x.due(3, "height", 0, 4, 0, 11).due(0, "flowOf", 0, 4, 20, 2).due(3, "flowOf", 0, 4, 20, 1)
            .due(4, "height", 0, 5, 0, 12).due(1, "flowOf", 0, 5, 20, 2);
        x.due(16, "flowOf", 0, 5, 20, 1).due(5, "height", 0, 6, 0, 9999).due(99999999, "flowOf", 0, 6, 20, 0)
            .due(99999999, "peak", 0, 0, 9999, 20);
        x.due(1, "often", 0, 99999999).due(0, "publish", 0, 6).due(99999999, "published", 0, 2);
        Gauge y = Scenes.at("III: one POINT alone: its flow, and BEYOND it is", 0, 20);
        y.due(0, "height", 0, 1, 0, 10).due(0, "measure", 0, 1, 77, 4).due(77, "flowAt", 0, 0, 11)
            .due(77, "flowAt", 0, 0, 99999).due(1, "height", 0, 2, 0, 11);
        y.due(77, "flowOf", 0, 2, 20, 0).due(1, "flowOf", 0, 2, 20, 2).due(18, "flowOf", 0, 2, 20, 1)
            .due(0, "flowOf", 0, 1, 20, 2).due(4, "flowOf", 0, 1, 20, 1);
        y.due(2, "height", 0, 3, 0, 9).due(0, "flowOf", 0, 3, 20, 2).due(76, "flowOf", 0, 3, 20, 0).due(1, "drop", 0)
            .refused(-5, "flowAt", 0, 0, 10);
        y.refused(-5, "flowOf", 0, 1, 20, 0).refused(-5, "flowOf", 0, 2, 20, 2);
        Gauge z = Scenes.at("III: BEYOND by two POINTS of one flow, and cut", 0, 20);
        Scenes.measured(z, new int[] {10, 20, 23}, new int[] {5, 9, 9}, 0).due(9, "flowAt", 0, 0, 99999)
            .due(1, "drop", 2).due(9, "flowAt", 0, 0, 20);
        z.due(9, "flowAt", 0, 0, 21).due(9, "flowAt", 0, 0, 22).due(10, "flowAt", 0, 0, 23);
    }

    private static void ice() {
        Gauge x = Scenes.curve("III: ICE from a TIME to a TIME, the greatest of those known by K");
        x.due(3, "height", 0, 4, 0, 100).due(4, "height", 0, 5, 0, 100).due(5, "height", 0, 6, 0, 100).due(21, "go", 1)
            .due(1, "under", 0, 0, 4, 5, 10);
        x.due(50, "flowOf", 0, 1, 21, 0).due(450, "flowOf", 0, 3, 21, 0).due(45, "flowOf", 0, 4, 21, 0)
            .due(45, "flowOf", 0, 5, 21, 0).due(50, "flowOf", 0, 6, 21, 0);
        x.due(50, "flowOf", 0, 4, 20, 0).due(22, "go", 1).due(2, "under", 0, 0, 5, 6, 30).due(3, "under", 0, 0, 0, 9, 20)
            .due(40, "flowOf", 0, 4, 22, 0);
        x.due(35, "flowOf", 0, 5, 22, 0).due(35, "flowOf", 0, 6, 22, 0).due(45, "flowOf", 0, 5, 21, 0)
            .due(360, "flowOf", 0, 3, 22, 0).due(450, "flowOf", 0, 3, 21, 0);
        x.due(4, "under", 0, 0, 3, 3, 99).due(5, "flowOf", 0, 3, 22, 0).due(5, "under", 0, 0, 2, 2, 0)
            .due(120, "flowOf", 0, 2, 22, 0);
        x.due(10, "flowOf", 0, 3, 22, 1).due(0, "flowOf", 0, 3, 22, 2);
        Gauge y = Scenes.curve("III: ICE and WEED are of one POST");
        y.due(1, "post", 0).due(3, "height", 1, 2, 0, 5).due(3, "measure", 1, 2, 100, 0).due(1, "under", 1, 0, 0, 9, 10)
            .due(2, "under", 1, 1, 0, 2, 50);
        y.due(150, "flowOf", 0, 2, 20, 0).due(45, "flowOf", 1, 2, 20, 0).due(3, "under", 0, 0, 2, 2, 20)
            .due(120, "flowOf", 0, 2, 20, 0).due(45, "flowOf", 1, 2, 20, 0);
        Gauge z = Scenes.at("III: less ICE hundredths of the greatest flow, and of small ones, cut", 0, 20);
        Scenes.measured(z, new int[] {10, 11}, new int[] {1, 99999}, 0).due(2, "height", 0, 5, 0, 9999)
            .due(99999999, "flowOf", 0, 5, 20, 0);
        z.due(1, "under", 0, 0, 1, 5, 99).due(1000000, "flowOf", 0, 5, 20, 0).due(1, "flowOf", 0, 1, 20, 0)
            .due(1000, "flowOf", 0, 2, 20, 0);
        z.due(2, "under", 0, 1, 0, 5, 99).due(10000, "flowOf", 0, 5, 20, 0).due(1, "flowOf", 0, 1, 20, 0)
            .due(610, "flowOf", 0, 2, 20, 0);
    }

    private static void weed() {
        Gauge x = Scenes.at("III: WEED from 0 at its first TIME to so many at its last one, cut", 0, 20);
        for (int i = 0; i < 9; i++) x.due(i, "height", 0, i, 0, 10);
        x.due(0, "measure", 0, 0, 1000, 0).due(1, "under", 0, 1, 1, 7, 10);
        // Hundredths: 0, 1, 3, 5, 6, 8, 10 at 1 .. 7.
        int[] due = {1000, 1000, 990, 970, 950, 940, 920, 900, 1000};
        for (int i = 0; i < 9; i++) x.due(due[i], "flowOf", 0, i, 20, 0);
        x.due(2, "under", 0, 1, 0, 8, 8).due(990, "flowOf", 0, 1, 20, 0).due(980, "flowOf", 0, 2, 20, 0)
            .due(970, "flowOf", 0, 3, 20, 0).due(920, "flowOf", 0, 8, 20, 0);
        x.due(900, "flowOf", 0, 7, 20, 0).due(3, "under", 0, 0, 7, 7, 50).due(450, "flowOf", 0, 7, 20, 0);
        Gauge y = Scenes.at("III: WEED over all TIMES, known from NOW on", 0, 9998);
        y.due(0, "height", 0, 0, 0, 1).due(1, "height", 0, 9997, 0, 1).due(2, "height", 0, 9998, 0, 1)
            .due(0, "measure", 0, 0, 100, 0).due(9999, "go", 1);
        y.due(3, "height", 0, 9999, 0, 1).due(1, "under", 0, 1, 0, 9999, 99).due(100, "flowOf", 0, 0, 9999, 0)
            .due(2, "flowOf", 0, 9998, 9999, 0);
        y.due(1, "flowOf", 0, 9999, 9999, 0).due(100, "flowOf", 0, 9998, 9998, 0).due(4, "height", 0, 5050, 0, 1)
            .due(50, "flowOf", 0, 5050, 9999, 0);
        y.due(5, "height", 0, 5049, 0, 1).due(51, "flowOf", 0, 5049, 9999, 0);
        Gauge z = Scenes.curve("III: WEED of one TIME is whole there");
        z.due(1, "under", 0, 1, 2, 2, 10).due(135, "flowOf", 0, 2, 20, 0).due(50, "flowOf", 0, 1, 20, 0)
            .due(450, "flowOf", 0, 3, 20, 0);
        Gauge w = Scenes.curve("III: ICE first, then WEED of what is left");
        // 450 less 10 hundredths is 405; less 33 of it, 133.65 cut, is 272. The other way round it would be 271.
        w.due(1, "under", 0, 1, 0, 3, 33).due(2, "under", 0, 0, 3, 3, 10).due(272, "flowOf", 0, 3, 20, 0);
    }

    private static void howWrong() {
        int[] wrong = {0, 1, 44, 45, 46, 99};
        int[] beyond = {10, 12, 98, 100, 100, 100};
        for (int i = 0; i < wrong.length; i++) {
            Gauge x = Scenes.at("III: HOW WRONG, of " + wrong[i], 0, 20);
            x.due(0, "height", 0, 1, 0, 10).due(1, "height", 0, 2, 0, 11).due(0, "measure", 0, 1, 5, wrong[i]);
            x.due(wrong[i], "flowOf", 0, 1, 20, 1).due(beyond[i], "flowOf", 0, 2, 20, 1);
        }
        Gauge y = Scenes.curve("III: the greatest WRONG of FLOWS of the CURVE alone");
        y.due(10, "flowOf", 0, 1, 20, 1).due(3, "measure", 0, 1, 50, 4).due(10, "flowOf", 0, 1, 20, 1)
            .due(1, "stretch", 0, 3);
        y.due(7, "flowOf", 0, 3, 20, 1).due(10, "flowOf", 0, 2, 20, 1).due(7, "flowOf", 0, 3, 20, 1).due(1, "drop", 1)
            .due(5, "flowOf", 0, 1, 20, 1);
        y.due(1, "drop", 0).due(4, "flowOf", 0, 1, 20, 1).due(21, "go", 1).due(4, "measure", 0, 1, 50, 9)
            .due(9, "flowOf", 0, 1, 21, 1).due(4, "flowOf", 0, 1, 20, 1);
        y.due(1, "post", 0).due(3, "height", 1, 1, 0, 100).due(5, "measure", 1, 1, 50, 50).due(50, "flowOf", 1, 1, 21, 1)
            .due(9, "flowOf", 0, 1, 21, 1);
    }

    private static void breaks() {
        Gauge x = Scenes.level("IV: one FLOW has no BREAKS");
        x.refused(-5, "breaks", 0, 3).due(0, "height", 0, 1, 0, 500).due(0, "measure", 0, 1, 500, 0)
            .due(1, "breaks", 0, 3).due(0, "breaks", 0, 0);
        x.due(1, "breaks", 0, 1).due(0, "breaks", 0, 2).due(0, "shift", 0, 0).refused(-1, "shift", 0, 1)
            .due(1, "drop", 0).refused(-5, "breaks", 0, 0);
        Gauge y = Scenes.level("IV: the fewest from 0 to 7, each bit in its place");
        int[] reads = {100, 200, 300, 400, 500, 600, 700, 800};
        for (int bit = -1; bit < 7; bit++) {
            Gauge each = Scenes.level("IV: the BREAK of bit " + bit);
            for (int i = 0; i < 8; i++) {
                each.due(i, "height", 0, i + 1, 0, reads[i])
                    .due(i, "measure", 0, i + 1, reads[i] + (bit >= 0 && i > bit ? 9 : 0), 0);
            }
            each.due(8, "breaks", 0, 3).due(bit < 0 ? 0 : 1, "breaks", 0, 0).due(1, "breaks", 0, 1)
                .due(bit < 0 ? 0 : 1 << bit, "breaks", 0, 2);
            each.due(0, "shift", 0, 0);
            if (bit < 0) each.refused(-1, "shift", 0, 1);
            else each.due(9, "shift", 0, 1).refused(-1, "shift", 0, 2);
        }
        int[] flows = new int[8];
        for (int i = 0; i < 8; i++) flows[i] = reads[i] + (i % 2 == 0 ? 50 : -50);
        Scenes.measured(y, reads, flows, 0).due(7, "breaks", 0, 0).due(1, "breaks", 0, 1).due(127, "breaks", 0, 2);
        for (int i = 0; i < 8; i++) y.due(i % 2 == 0 ? 50 : -50, "shift", 0, i);
        y.refused(-1, "shift", 0, 8).due(8, "height", 0, 9, 0, 1).due(8, "measure", 0, 9, 999, 0).due(8, "breaks", 0, 3)
            .due(7, "breaks", 0, 0);
        // One ahead of all others pushes the last of them out.
        y.due(9, "height", 0, 0, 0, 900).due(9, "measure", 0, 0, 850, 0).due(8, "breaks", 0, 3).due(7, "breaks", 0, 0)
            .due(-50, "shift", 0, 0).due(50, "shift", 0, 7);
        y.due(1, "drop", 9).due(1, "drop", 0).due(8, "breaks", 0, 3).due(-9, "breaks", 0, 0).due(-9, "breaks", 0, 1)
            .due(-9, "breaks", 0, 2).refused(-3, "shift", 0, 0);
        Gauge z = Scenes.level("IV: by TIMES, then numbers, the first 8");
        for (int i = 0; i < 4; i++) z.due(i, "height", 0, 5 + i, 0, 500);
        int[] times = {8, 6, 6, 5, 7, 6, 5, 6, 7, 7};
        int[] moved = {40, 3, 4, 1, 7, 5, 2, 6, 8, 40};
        for (int i = 0; i < 10; i++) z.due(i, "measure", 0, times[i], 500 + moved[i], 0);
        z.due(8, "breaks", 0, 3).due(127, "breaks", 0, 2);
        for (int i = 0; i < 8; i++) z.due(i + 1, "shift", 0, i);
    }

    private static void rivals() {
        Gauge x = Scenes.level("IV: RIVALS, and the least as bits");
        // The first goes with 0 alone, the last with 10 alone, the six between with both.
        for (int i = 0; i < 8; i++) x.due(i, "height", 0, i + 1, 0, 500);
        x.due(0, "measure", 0, 1, 500, 0);
        for (int i = 1; i < 7; i++) x.due(i, "measure", 0, i + 1, 505, 1);
        x.due(7, "measure", 0, 8, 510, 0).due(1, "breaks", 0, 0).due(7, "breaks", 0, 1).due(1, "breaks", 0, 2)
            .due(0, "shift", 0, 0).due(10, "shift", 0, 1);
        Gauge y = Scenes.level("IV: RIVALS of two BREAKS");
        // 0, then 0 or 5, then 5, then 5 or 10, then 10: two places for each BREAK.
        for (int i = 0; i < 5; i++) y.due(i, "height", 0, i + 1, 0, 500);
        y.due(0, "measure", 0, 1, 500, 0).due(1, "measure", 0, 2, 503, 1).due(2, "measure", 0, 3, 505, 0)
            .due(3, "measure", 0, 4, 508, 1).due(4, "measure", 0, 5, 510, 0);
        y.due(2, "breaks", 0, 0).due(4, "breaks", 0, 1).due(5, "breaks", 0, 2).due(0, "shift", 0, 0)
            .due(5, "shift", 0, 1).due(10, "shift", 0, 2);
        Gauge z = Scenes.level("IV: the SHIFT of the least amount, below 0 first");
        z.due(3, "base", 0, 2, 1010, 1000).due(0, "height", 0, 1, 0, 1005).due(0, "measure", 0, 1, 995, 0)
            .due(-10, "shift", 0, 0).due(1, "drop", 0);
        z.due(1, "measure", 0, 1, 1000, 0).due(0, "shift", 0, 0).due(1, "drop", 1).due(2, "base", 0, 1, 1004, 1000)
            .due(3, "base", 0, 2, 1005, 1001);
        z.due(4, "base", 0, 3, 1006, 1002).due(2, "measure", 0, 1, 1001, 0).due(0, "shift", 0, 0)
            .due(3, "base", 0, 2, 1006, 2000).due(4, "base", 0, 3, 1007, 2000);
        // By it there is 1000 at 1004, 1500 at 1005, 2000 from 1006 on.
        z.due(1, "drop", 2).due(3, "measure", 0, 1, 1000, 0).due(-1, "shift", 0, 0).due(1, "drop", 3)
            .due(4, "measure", 0, 1, 2000, 0).due(1, "shift", 0, 0);
        // A base never falls, so SHIFTS that go are on end: where some go below 0 and some above it, 0 goes too.
        Gauge w = Scenes.at("IV: of many SHIFTS the one of the least amount", 0, 50);
        w.due(1, "base", 0, 0, 10, 100).due(2, "base", 0, 1, 20, 100).due(3, "base", 0, 2, 21, 200)
            .due(0, "height", 0, 1, 0, 15).due(0, "measure", 0, 1, 100, 0);
        w.due(0, "shift", 0, 0).due(1, "height", 0, 1, 1, 30).due(-10, "shift", 0, 0).due(2, "height", 0, 1, 1, 5)
            .due(5, "shift", 0, 0);
    }

    private static void bases() {
        Gauge x = Scenes.at("IV: a base of 8 POINTS, FLOW AT by it as in III", -999, 50);
        int[] heights = {-9999, -1000, -999, 0, 10, 20, 30, 99999};
        int[] flows = {0, 1, 2, 100, 100, 200, 99998, 99999};
        for (int i = 0; i < 8; i++) x.due(i + 1, "base", 0, i, heights[i], flows[i]);
        x.due(1, "moved", 0, 0, 2);
        int[] reads = {0, 0, 5, 10, 15, 20, 25, 9999};
        // At 9999: 99998 and 9969 by 99969, cut: 99998. At 25: 200 and half of 99798.
        int[] due = {2, 100, 100, 100, 150, 200, 50099, 99998};
        for (int i = 0; i < 8; i++) x.due(i, "height", 0, i + 1, 0, reads[i]).due(i, "measure", 0, i + 1, due[i], 0);
        x.due(0, "breaks", 0, 0).due(8, "breaks", 0, 3).due(0, "shift", 0, 0);
        Gauge y = Scenes.at("IV: LOW being -2000, whatever LOW was told", -999, 50);
        y.due(1, "base", 0, 0, 1, 2001).due(0, "height", 0, 1, 0, 0).due(0, "measure", 0, 1, 1001, 0)
            .due(0, "shift", 0, 0).due(-2000, "low", 0, 9999);
        y.due(0, "shift", 0, 0).due(9999, "low", 0, -1500).due(0, "shift", 0, 0).due(1, "base", 0, 0, -2000, 1001)
            .due(0, "shift", 0, 0);
        y.due(1, "base", 0, 0, -9999, 1001).due(0, "shift", 0, 0).due(1, "base", 0, 0, -1999, 1001).due(0, "shift", 0, 0);
        Gauge z = Scenes.at("IV: beyond a base by its last two POINTS, one alone its flow", 0, 50);
        z.due(1, "base", 0, 0, 10, 5).due(0, "height", 0, 1, 0, 110).due(0, "measure", 0, 1, 5, 0).due(0, "shift", 0, 0)
            .due(2, "base", 0, 1, 20, 7).due(-9, "breaks", 0, 0);
        z.due(1, "measure", 0, 1, 25, 0).due(1, "drop", 0).due(0, "shift", 0, 0).due(1, "drop", 1)
            .due(2, "measure", 0, 1, 15, 0).due(-46, "shift", 0, 0).due(1, "drop", 2);
        // 5 and 2 by 10 for each height, cut: 15 from 60 to 64, 14 from 55 to 59, which is 51 below.
        z.due(3, "measure", 0, 1, 14, 0).refused(-3, "shift", 0, 0);
        Gauge w = Scenes.at("IV: FLOWS without a base, a base without FLOWS, of each POST its own", 0, 50);
        w.due(1, "post", 0).due(0, "height", 0, 1, 0, 5).due(0, "measure", 0, 1, 5, 0).due(1, "base", 1, 0, 5, 5)
            .refused(-5, "breaks", 0, 3).refused(-5, "breaks", 1, 3);
        w.refused(-5, "shift", 0, 0).refused(-5, "shift", 1, 0).refused(-5, "judge", 0).refused(-5, "judge", 1)
            .due(1, "base", 0, 0, 5, 5).due(1, "breaks", 0, 3);
        w.due(1, "strike", 0).refused(-5, "breaks", 0, 0);
        Gauge v = Scenes.at("IV: a POINT in the middle takes all behind it away", 0, 50);
        v.due(1, "base", 0, 0, 0, 0).due(2, "base", 0, 1, 100, 100).due(3, "base", 0, 2, 200, 1000)
            .due(0, "height", 0, 1, 0, 150).due(0, "measure", 0, 1, 550, 0);
        v.due(0, "shift", 0, 0).due(2, "base", 0, 1, 100, 100).due(-9, "breaks", 0, 0)
            .refused(-1, "base", 0, 3, 300, 2000).due(3, "base", 0, 2, 101, 109).due(0, "shift", 0, 0);
        v.due(1, "base", 0, 0, 50, 550).due(0, "shift", 0, 0).refused(-1, "base", 0, 2, 60, 600);
    }

    private static void judged(int place, int flows, int... bytes) {
        Gauge x = Scenes.level("IV: ROWS that prove, " + flows + " FLOWS: " + java.util.Arrays.toString(bytes));
        for (int i = 0; i < flows; i++) x.due(i, "height", 0, i + 1, 0, 500).due(i, "measure", 0, i + 1, 500 + i, 0);
        for (int i = 0; i < bytes.length; i++) x.due(i + 1, "put", bytes[i]);
        x.due(place, "judge", 0).due(0, "count", 10);
    }

    private static void rowsThatProve() {
        judged(0, 1);
        judged(1, 1, 0);
        judged(-9, 1, 0, 0);
        judged(1, 1, 0, 1);
        judged(2, 1, 0, 0, 0);
        judged(0, 1, 1, 0, 0);
        judged(0, 1, -1, 0);
        judged(-9, 2, 1, 0, 1);
        judged(1, 2, 0, 0);
        judged(1, 2, 0, 1);
        judged(0, 2, 2, 0, 1);
        judged(0, 2, 3, 0, 1);
        judged(2, 2, 1, 0);
        judged(2, 2, 1, 0, 0);
        judged(3, 2, 1, 0, 1, 1);
        judged(-9, 8, 127, 0, 1, 2, 3, 4, 5, 6, 7);
        judged(8, 8, 127, 0, 1, 2, 3, 4, 5, 6);
        judged(8, 8, 127, 0, 1, 2, 3, 4, 5, 6, 6);
        judged(9, 8, 127, 0, 1, 2, 3, 4, 5, 6, 7, 0);
        judged(9, 8, 127, 0, 1, 2, 3, 4, 5, 6, 7, 0, 0, 0);
        judged(0, 8, -128, 0, 1, 2, 3, 4, 5, 6, 7);
        judged(0, 8, -1, 0, 1, 2, 3, 4, 5, 6, 7);
        judged(1, 8, 126, 0, 2, 3, 4, 5, 6, 7);
        judged(7, 8, 63, 0, 1, 2, 3, 4, 5, 6);
        judged(0, 7, 64, 0, 0);
        judged(1, 8, 64, 0, 0);
        judged(-9, 3, 3, 0, 1, 2);
        judged(0, 3, 4, 0, 1, 2);
        Gauge x = Scenes.level("IV: JUDGED without search: more BREAKS than are needed prove as well");
        Scenes.measured(x, new int[] {500, 500, 500}, new int[] {500, 500, 500}, 1).due(0, "breaks", 0, 0);
        x.due(1, "put", 3).due(2, "put", -5).due(3, "put", 5).due(4, "put", 0).due(-9, "judge", 0);
        x.due(1, "put", 3).due(2, "put", -5).due(3, "put", 6).due(4, "put", -6).due(2, "judge", 0).due(1, "put", 0)
            .due(2, "put", -6).due(1, "judge", 0);
        // By none they go, and a row is wrong where it does not.
        x.due(3, "measure", 0, 3, 9, 0).due(-9, "breaks", 0, 0).due(1, "put", 4).due(2, "put", 0).due(3, "put", 0)
            .due(2, "judge", 0);
    }

    private static void gapEnds() {
        Gauge x = Scenes.at("V: the ends within 200 TIMES together", 0, 9999);
        x.due(0, "height", 0, 0, 0, 0).due(1, "height", 0, 200, 0, 200).due(2, "height", 0, 401, 0, 401)
            .due(3, "height", 0, 9799, 0, 10).due(4, "height", 0, 9999, 0, 210);
        x.due(1, "gap", 0, 1, 0).due(0, "gap", 0, 1, 1).due(200, "gap", 0, 1, 2).due(199, "gap", 0, 199, 0)
            .refused(-5, "gap", 0, 201, 0).refused(-5, "gap", 0, 400, 3);
        x.due(11, "gap", 0, 9800, 0).due(209, "gap", 0, 9998, 0).due(9799, "gap", 0, 9998, 1)
            .due(9999, "gap", 0, 9998, 2).refused(-3, "gap", 0, 9999, 0).refused(-3, "gap", 0, 0, 0);
        x.due(5, "height", 0, 400, 0, 7).refused(-3, "gap", 0, 400, 0).due(200, "gap", 0, 201, 0).due(8, "gap", 0, 399, 0);
        Gauge y = Scenes.at("V: the nearest TIMES with a HEIGHT as known NOW", 0, 50);
        y.due(0, "height", 0, 10, 0, 100).due(1, "height", 0, 12, 0, 300).due(200, "gap", 0, 11, 0)
            .due(2, "height", 0, 11, 0, -1).due(200, "gap", 0, 11, 0);
        y.due(3, "height", 0, 11, 0, 5).refused(-3, "gap", 0, 11, 0).due(1, "strike", 3).due(200, "gap", 0, 11, 0)
            .due(10, "gap", 0, 11, 1).due(12, "gap", 0, 11, 2);
        y.refused(-5, "gap", 0, 9, 1).refused(-5, "gap", 0, 13, 2).due(4, "height", 0, 14, 0, 300)
            .due(300, "gap", 0, 13, 0).due(1, "strike", 1).due(150, "gap", 0, 11, 0).due(14, "gap", 0, 12, 2);
        y.due(1, "strike", 0).refused(-5, "gap", 0, 12, 0).refused(-5, "gap", 0, 50, 0).refused(-5, "gap", 0, 51, 0)
            .refused(-5, "gap", 0, 0, 0);
        Gauge z = Scenes.at("V: ends are of the POST itself", 0, 50);
        z.due(1, "post", 0).due(2, "post", 0).due(0, "height", 0, 10, 0, 1).due(1, "height", 0, 20, 0, 1)
            .due(2, "height", 2, 10, 0, 1).due(3, "height", 2, 20, 0, 1);
        z.refused(-5, "gap", 1, 15, 0).due(4, "height", 1, 12, 0, 1).refused(-5, "gap", 1, 15, 0)
            .refused(-5, "gap", 1, 11, 0).due(5, "height", 1, 18, 0, 1).due(1, "gap", 1, 15, 0);
        z.refused(-5, "gap", 1, 19, 0).refused(-5, "gap", 0, 9, 0).refused(-5, "gap", 2, 21, 0);
    }

    private static void neighbours() {
        for (int lacks = 0; lacks < 4; lacks++) {
            Gauge x = Scenes.at("V: a NEIGHBOUR has HEIGHTS at both ends and at the TIME; it lacks " + lacks, 0, 50);
            x.due(1, "post", 0).due(-1, "beside", 0, 1).due(0, "height", 0, 10, 0, 100).due(1, "height", 0, 20, 0, 200);
            int[] times = {10, 15, 20};
            for (int i = 0; i < 3; i++) x.due(2 + i, "height", 1, times[i], 0, i == lacks - 1 ? -1 : 50 + i * i);
            // Between 50 and 54 lies 52; it has 51: 1 less.
            x.due(lacks == 0 ? 149 : 150, "gap", 0, 15, 0).due(lacks == 0 ? 1 : 0, "gap", 0, 15, 3)
                .due(10, "gap", 0, 15, 1).due(20, "gap", 0, 15, 2);
            x.due(140, "gap", 0, 14, 0).due(0, "gap", 0, 14, 3);
        }
        Gauge y = Scenes.at("V: the NEIGHBOUR told for it, at first none, and not the other way round", 0, 50);
        y.due(1, "post", 0).due(2, "post", 0);
        for (int post = 0; post < 3; post++) {
            y.due(3 * post, "height", post, 10, 0, 0).due(3 * post + 1, "height", post, 20, 0, 0)
                .due(3 * post + 2, "height", post, 30, 0, 0);
        }
        y.due(9, "height", 1, 15, 0, 7).due(10, "height", 2, 15, 0, 8).due(11, "height", 1, 25, 0, 4)
            .due(0, "gap", 0, 15, 0).due(-1, "beside", 0, 1).due(7, "gap", 0, 15, 0);
        y.due(1, "beside", 0, 2).due(8, "gap", 0, 15, 0).due(0, "gap", 0, 25, 0).due(0, "gap", 0, 25, 3)
            .due(2, "beside", 0, 1).due(4, "gap", 0, 25, 0).due(0, "gap", 2, 25, 0);
        y.due(1, "beside", 0, -1).due(0, "gap", 0, 25, 0).due(-1, "beside", 0, -1).due(-1, "beside", 2, 1)
            .due(4, "gap", 2, 25, 0).due(1, "beside", 2, 1);
    }

    private static void filled() {
        Gauge x = Scenes.at("V: FILLED, cut toward 0", 0, 50);
        x.due(0, "height", 0, 10, 0, 100).due(1, "height", 0, 20, 0, 93);
        // From 100 down to 93: less 0.7 each TIME, which is cut toward 0 before it is taken away.
        int[] due = {100, 100, 99, 98, 98, 97, 96, 96, 95, 94};
        for (int i = 1; i < 10; i++) x.due(due[i], "gap", 0, 10 + i, 0);
        Gauge y = Scenes.at("V: FILLED below 0", -999, 50);
        y.due(0, "height", 0, 10, 0, 0).due(1, "height", 0, 13, 0, 1000).due(-666, "gap", 0, 11, 0)
            .due(-333, "gap", 0, 12, 0).due(1, "moved", 0, 0, 0);
        y.due(333, "gap", 0, 11, 0).due(666, "gap", 0, 12, 0).due(1, "strike", 1).due(2, "height", 0, 13, 0, 1)
            .due(0, "gap", 0, 11, 0);
        y.due(2, "moved", 0, -1, 13).due(1, "strike", 2).due(3, "height", 0, 13, 0, 0).due(0, "gap", 0, 12, 0)
            .due(3, "moved", 0, -2, 13).due(-1, "gap", 0, 12, 0).due(0, "gap", 0, 11, 0);
        Gauge z = Scenes.at("V: by how much the NEIGHBOUR's HEIGHT is more than what lies between its own, likewise cut", 0, 50);
        z.due(1, "post", 0).due(-1, "beside", 0, 1).due(0, "height", 0, 10, 0, 0).due(1, "height", 0, 13, 0, 2)
            .due(2, "height", 1, 10, 0, 9).due(3, "height", 1, 13, 0, 4);
        // Own: 0, 0 .. 1. Its own: 9 less 5 by 3, cut 1: 8; less 10 by 3, cut 3: 6.
        z.due(4, "height", 1, 11, 0, 20).due(12, "gap", 0, 11, 0).due(5, "height", 1, 12, 0, 0).due(-5, "gap", 0, 12, 0)
            .due(1, "moved", 1, 999, 0).due(-5, "gap", 0, 12, 0);
        z.due(12, "gap", 0, 11, 0).due(2, "moved", 0, -7, 0).due(5, "gap", 0, 11, 0).due(-12, "gap", 0, 12, 0);
        Gauge w = Scenes.at("V: the farthest HEIGHTS", -999, 300);
        w.due(1, "moved", 0, 999, 200).due(0, "height", 0, 0, 0, 0).due(1, "height", 0, 200, 0, 9999)
            .due(-940, "gap", 0, 1, 0).due(10938, "gap", 0, 199, 0).due(4999, "gap", 0, 100, 0);
    }

    private static void peaks() {
        Gauge x = Scenes.curve("VI: PEAK from a TIME to a TIME, both in it");
        x.due(50, "peak", 0, 1, 1, 20).due(50, "peak", 0, 0, 1, 20).due(150, "peak", 0, 1, 2, 20)
            .due(450, "peak", 0, 2, 3, 20).due(450, "peak", 0, 3, 9999, 20);
        x.refused(-5, "peak", 0, 0, 0, 20).refused(-5, "peak", 0, 4, 4, 20).refused(-5, "peak", 0, 4, 9999, 20)
            .refused(-5, "peak", 0, 1, 3, 19).due(1, "post", 0);
        x.due(3, "height", 1, 0, 0, 9).refused(-5, "peak", 1, 0, 0, 20).due(3, "measure", 1, 0, 0, 0)
            .due(0, "peak", 1, 0, 0, 20).due(0, "peak", 1, 0, 9999, 20);
        x.due(4, "height", 0, 9, 0, 0).due(47, "peak", 0, 9, 9, 20).due(-2000, "low", 0, 0).due(0, "peak", 0, 4, 9999, 20);
        Gauge y = Scenes.curve("VI: the greatest is anywhere, and of the POST alone");
        y.due(3, "height", 0, 4, 0, 150).due(450, "peak", 0, 0, 9999, 20).due(1, "under", 0, 0, 3, 3, 99)
            .due(150, "peak", 0, 0, 9999, 20).due(2, "under", 0, 0, 2, 2, 99);
        y.due(100, "peak", 0, 0, 9999, 20).due(1, "post", 0).due(4, "height", 1, 2, 0, 5)
            .due(3, "measure", 1, 2, 9999, 0).due(100, "peak", 0, 0, 9999, 20);
        y.due(9999, "peak", 1, 0, 9999, 20).due(9999, "peak", 1, 2, 2, 20).refused(-5, "peak", 1, 3, 9999, 20)
            .refused(-5, "peak", 1, 0, 1, 20);
    }

    private static void often() {
        Gauge x = Scenes.at("VI: OFTEN, a FLOW OF of n or more", 0, 2500);
        x.due(0, "often", 0, 0).due(0, "height", 0, 0, 0, 0).due(0, "often", 0, 0).due(0, "measure", 0, 0, 0, 0)
            .due(1, "often", 0, 0).due(0, "often", 0, 1);
        x.due(1, "height", 0, 1500, 0, 100).due(1, "measure", 0, 1500, 1000, 0).due(2, "often", 0, 0)
            .due(1, "often", 0, 1).due(1, "often", 0, 1000).due(0, "often", 0, 1001);
        x.due(2, "height", 0, 999, 0, 50).due(2, "often", 0, 500).due(1, "often", 0, 501)
            .due(3, "height", 0, 2500, 0, 100).due(3, "often", 0, 500).due(2, "often", 0, 1000);
        x.due(1, "under", 0, 0, 2500, 2500, 1).due(1, "often", 0, 1000).due(2, "often", 0, 990).due(1, "often", 0, 991)
            .due(1, "post", 0).due(0, "often", 1, 0).due(0, "often", 0, 99999999);
    }

    /** Two POSTS by which the flow is the height, from TIME 100 on; NOW is 9999. */
    private static Gauge two(String title) {
        Gauge x = Scenes.at(title, 0, 9999).due(1, "post", 0);
        for (int post = 0; post < 2; post++) {
            x.due(2 * post, "height", post, 1, 0, 0).due(2 * post + 1, "height", post, 2, 0, 1000);
            x.due(2 * post, "measure", post, 1, 0, 0).due(2 * post + 1, "measure", post, 2, 1000, 0);
        }
        return x;
    }

    private static void agrees(Gauge x, int from, int to, int lag, int above, int below) {
        x.due(lag, "agree", 0, 1, from, to, 0).due(above, "agree", 0, 1, from, to, 1).due(below, "agree", 0, 1, from, to, 2);
    }

    private static void lags() {
        Gauge x = two("VI: AGREE over TIMES s to e, LAG 0 .. 20");
        x.due(4, "height", 0, 100, 0, 10).refused(-5, "agree", 0, 1, 100, 100, 0).due(5, "height", 1, 121, 0, 10)
            .refused(-5, "agree", 0, 1, 100, 100, 0);
        x.due(6, "height", 1, 99, 0, 10).refused(-5, "agree", 0, 1, 100, 100, 1).due(7, "height", 1, 120, 0, 17);
        agrees(x, 100, 100, 20, 7, 1);
        agrees(x, 100, 399, 20, 7, 1);
        agrees(x, 81, 100, 20, 7, 1);
        x.refused(-5, "agree", 0, 1, 101, 399, 0).refused(-5, "agree", 0, 1, 50, 99, 2).due(8, "height", 1, 100, 0, 18);
        agrees(x, 100, 100, 20, 7, 1);
        x.due(9, "height", 1, 101, 0, 3);
        agrees(x, 100, 100, 1, 7, 1);
        x.due(10, "height", 1, 100, 1, 3);
        agrees(x, 100, 100, 0, 7, 1);
        x.due(1, "agree", 1, 0, 99, 99, 0).due(0, "agree", 1, 0, 99, 99, 1).refused(-5, "agree", 1, 0, 120, 121, 0);
        Gauge y = two("VI: FLOWS of 0 are there, HEIGHTS without a FLOW OF are not");
        y.due(4, "height", 0, 100, 0, 0).due(5, "height", 1, 100, 0, 4).due(6, "height", 1, 101, 0, 0);
        agrees(y, 100, 100, 1, 0, 1);
        y.due(1, "stretch", 1, 101);
        agrees(y, 100, 100, 0, 4, 1);
        y.due(1, "stretch", 0, 100).refused(-5, "agree", 0, 1, 100, 100, 0).refused(-5, "agree", 1, 0, 100, 100, 0);
        Gauge z = two("VI: one POST with itself");
        z.due(4, "height", 0, 100, 0, 5).due(5, "height", 0, 101, 0, 5).due(0, "agree", 0, 0, 100, 101, 0)
            .due(0, "agree", 0, 0, 100, 101, 1).due(1, "agree", 0, 0, 100, 101, 2);
        Gauge w = two("VI: at the end of TIMES");
        w.due(4, "height", 0, 9999, 0, 5).due(5, "height", 1, 9999, 0, 8).due(6, "height", 0, 9979, 0, 8);
        agrees(w, 9999, 9999, 0, 3, 1);
        agrees(w, 9979, 9979, 20, 0, 1);
        agrees(w, 9700, 9999, 20, 0, 1);
    }

    private static void means() {
        Gauge x = two("VI: the least mean, exactly, of several the least LAG, in least terms");
        int[] one = {100, 300, 600};
        for (int i = 0; i < 3; i++) x.due(4 + i, "height", 0, 100 + 30 * i, 0, one[i]);
        // LAG 0: 1, 1 and 0, 2 by 3; LAG 1: 1 and 0, 1 by 2.
        x.due(7, "height", 1, 100, 0, 101).due(8, "height", 1, 130, 0, 299).due(9, "height", 1, 160, 0, 600)
            .due(10, "height", 1, 101, 0, 100).due(11, "height", 1, 131, 0, 301);
        agrees(x, 100, 160, 1, 1, 2);
        agrees(x, 100, 129, 1, 0, 1);
        agrees(x, 130, 160, 0, 1, 2);
        agrees(x, 160, 160, 0, 0, 1);
        // LAG 2: 1, 0: the same mean, and greater.
        x.due(12, "height", 1, 102, 0, 99).due(13, "height", 1, 132, 0, 300);
        agrees(x, 100, 160, 1, 1, 2);
        Gauge y = two("VI: 1 by 2 and 2 by 4 are one mean, 1 by 3 is less");
        int[] flows = {100, 300, 600, 1000};
        for (int i = 0; i < 4; i++) y.due(4 + i, "height", 0, 100 + 30 * i, 0, flows[i]);
        y.due(8, "height", 1, 100, 0, 101).due(9, "height", 1, 130, 0, 300);
        int[] later = {101, 301, 600, 1000};
        for (int i = 0; i < 4; i++) y.due(10 + i, "height", 1, 101 + 30 * i, 0, later[i]);
        agrees(y, 100, 190, 0, 1, 2);
        agrees(y, 130, 190, 0, 0, 1);
        agrees(y, 160, 190, 1, 0, 1);
        y.due(14, "height", 1, 131, 1, 300);
        agrees(y, 100, 190, 1, 1, 4);
        agrees(y, 100, 160, 1, 1, 3);
        agrees(y, 100, 130, 0, 1, 2);
        y.due(15, "height", 1, 100, 1, 103).due(16, "height", 1, 130, 1, 303).due(17, "height", 1, 101, 1, 106)
            .due(18, "height", 1, 131, 1, 306);
        agrees(y, 100, 190, 0, 3, 1);
        y.due(19, "height", 1, 190, 1, 1000).due(20, "height", 1, 130, 1, 309);
        agrees(y, 100, 190, 1, 3, 1);
        agrees(y, 130, 190, 1, 2, 1);
        Gauge z = two("VI: the greatest FLOWS, 21 of them");
        // POST 0 has 99999999 each time, POST 1 has 1 at first, then 0: LAG 0 has the 1, no other has.
        z.due(4, "measure", 0, 1, 0, 0).due(4, "height", 0, 2, 1, 1).due(5, "measure", 0, 2, 99999, 0).due(1, "drop", 1);
        for (int i = 0; i < 21; i++) {
            z.due(5 + 2 * i, "height", 0, 100 + i, 0, 9999).due(6 + 2 * i, "height", 1, 100 + i, 0, i == 0 ? 1 : 0);
        }
        z.due(99999999, "flowOf", 0, 100, 9999, 0).due(1, "flowOf", 1, 100, 9999, 0);
        agrees(z, 100, 120, 0, 2099999978, 21);
        agrees(z, 101, 120, 0, 99999999, 1);
    }

    private static void next() {
        Gauge x = Scenes.curve("VI: NEXT, HEIGHTS strictly between, of several the lowest");
        x.due(150, "next", 0).due(3, "height", 0, 4, 0, 200).due(4, "height", 0, 5, 0, 300)
            .due(5, "height", 0, 6, 0, 100).due(150, "next", 0);
        x.due(6, "height", 0, 7, 0, 299).due(250, "next", 0).due(7, "height", 0, 8, 0, 101).due(150, "next", 0)
            .due(8, "height", 0, 9, 0, 201).due(250, "next", 0);
        x.due(9, "height", 0, 10, 0, 199).due(150, "next", 0).due(10, "height", 0, 0, 0, 250).due(250, "next", 0)
            .due(1, "strike", 10).due(150, "next", 0);
        x.due(11, "height", 0, 11, 0, -1).due(150, "next", 0).due(1, "post", 0).due(12, "height", 1, 1, 0, 250)
            .due(150, "next", 0).due(1, "stretch", 0, 2).due(150, "next", 0);
        Gauge y = Scenes.at("VI: the difference of heights times how many, the middle cut down", -999, 20);
        Scenes.measured(y, new int[] {0, 3, 104}, new int[] {0, 5, 9}, 0).due(-998, "next", 0)
            .due(3, "height", 0, 4, 0, 1).due(4, "height", 0, 5, 0, 2).due(-998, "next", 0);
        y.due(5, "height", 0, 6, 0, 50).due(-946, "next", 0).due(1, "moved", 0, -2, 0).due(51, "next", 0)
            .due(2, "moved", 0, -3, 0).due(50, "next", 0);
        Gauge z = Scenes.at("VI: FLOWS of all TIMES, and fewer than two POINTS", 0, 9999);
        z.refused(-5, "next", 0).due(0, "height", 0, 0, 0, 10).due(0, "measure", 0, 0, 5, 0).refused(-5, "next", 0)
            .due(1, "height", 0, 9999, 0, 10).due(1, "measure", 0, 9999, 5, 0);
        z.refused(-5, "next", 0).due(2, "height", 0, 9999, 1, 21).due(15, "next", 0).due(1, "drop", 0)
            .refused(-5, "next", 0);
        Gauge w = Scenes.curve("VI: as many and as far: the lowest; more of a lesser one");
        w.due(3, "height", 0, 4, 0, 150).due(4, "height", 0, 5, 0, 250).due(150, "next", 0)
            .due(5, "height", 0, 0, 0, 250).due(250, "next", 0);
    }

    private static void published() {
        Gauge x = Scenes.curve("VII: PUBLISHED is kept as it is told, 40 at most");
        for (int i = 0; i < 40; i++) x.due(i, "publish", 0, 1 + i % 3);
        x.refused(-6, "publish", 0, 1).due(40, "count", 7).due(0, "published", 39, 0).due(1, "published", 39, 1)
            .due(50, "published", 39, 2).due(50, "published", 39, 3);
        x.due(1, "drop", 0).due(50, "published", 39, 2).due(143, "published", 39, 3).due(2, "published", 1, 1)
            .due(150, "published", 1, 2).due(-2000, "low", 0, 100);
        x.due(0, "published", 39, 3).due(50, "published", 39, 2).due(0, "published", 0, 3).due(0, "mend");
        Gauge y = Scenes.curve("VII: FLOW OF as known NOW, or none");
        y.due(0, "publish", 0, 3).due(25, "go", 5).due(1, "strike", 2).due(-9, "published", 0, 3)
            .due(450, "published", 0, 2).due(0, "mend").due(3, "height", 0, 3, 1, 200);
        // Both FLOWS lie at 200 now: 150 and 450 make 300.
        y.due(300, "published", 0, 3).due(4, "height", 0, 3, 1, 300).due(450, "published", 0, 3).due(-9, "mend")
            .refused(-5, "publish", 0, 4).due(1, "publish", 0, 2);
    }

    /** MEND with a LIMIT of what was told and what it is NOW, by one POINT. */
    private static void mended(int due, int limit, int told, int now) {
        Gauge x = Scenes.at("VII: " + told + " is " + now + ", LIMIT " + limit, 0, 20).due(5, "limit", limit);
        x.due(0, "height", 0, 1, 0, 10).due(0, "measure", 0, 1, told, 0).due(0, "publish", 0, 1).due(-9, "mend")
            .due(1, "drop", 0);
        x.due(0, "mend").due(1, "measure", 0, 1, now, 0).due(now, "published", 0, 3).due(told, "published", 0, 2)
            .due(due, "mend");
    }

    private static void mend() {
        mended(-9, 5, 10000, 10500);
        mended(0, 5, 10000, 10501);
        mended(-9, 5, 10000, 9500);
        mended(0, 5, 10000, 9499);
        mended(-9, 0, 10000, 10000);
        mended(0, 0, 10000, 10001);
        mended(0, 0, 10000, 9999);
        mended(-9, 100, 500, 1000);
        mended(0, 100, 500, 1001);
        mended(-9, 100, 500, 0);
        mended(0, 99, 500, 0);
        mended(-9, 100, 0, 0);
        mended(0, 100, 0, 1);
        mended(-9, 1, 199, 200);
        mended(0, 1, 99, 100);
        mended(-9, 1, 100, 99);
        mended(0, 100, 1, 99999);
        mended(-9, 5, 19, 19);
        mended(0, 5, 19, 18);
        mended(-9, 5, 20, 19);
        Gauge x = Scenes.at("VII: the greatest that can be told", 0, 20);
        Scenes.measured(x, new int[] {10, 11}, new int[] {9999, 99999}, 0).due(2, "height", 0, 5, 0, 9999)
            .due(0, "publish", 0, 5).due(99999999, "published", 0, 2);
        x.due(1, "drop", 1).due(9999, "published", 0, 3).due(0, "mend").due(5, "limit", 100).due(-9, "mend")
            .due(100, "limit", 99).due(0, "mend").due(99, "limit", 100);
        x.due(2, "measure", 0, 1, 0, 0).due(1, "drop", 0).due(0, "published", 0, 3).due(-9, "mend").due(1, "drop", 2)
            .due(-9, "published", 0, 3).due(0, "mend");
        Gauge y = Scenes.curve("VII: the first of those PUBLISHED, 5 hundredths at first");
        y.due(-9, "mend").due(0, "publish", 0, 1).due(1, "publish", 0, 2).due(2, "publish", 0, 3).due(-9, "mend")
            .due(1, "under", 0, 0, 3, 3, 9).due(2, "mend");
        y.due(2, "under", 0, 0, 2, 2, 6).due(1, "mend").due(3, "under", 0, 0, 1, 1, 50).due(0, "mend").due(5, "limit", 6)
            .due(0, "mend").due(6, "limit", 50).due(-9, "mend");
    }

    /** All 300 HEIGHTS are there, each at its own TIME: what is asked of the last ones has nothing behind it. */
    private static void allHeights() {
        Gauge x = Scenes.at("I: 300 HEIGHTS, all there", 0, 600).due(1, "post", 0);
        for (int i = 0; i < 300; i++) x.due(i, "height", i / 150, 2 * i, 0, i);
        x.due(149, "heightAt", 0, 298, 600).due(299, "heightAt", 1, 598, 600).due(0, "measure", 1, 300, 10, 0)
            .due(1, "measure", 1, 302, 11, 0);
        x.due(159, "peak", 1, 0, 9999, 600).due(159, "peak", 1, 598, 598, 600).refused(-5, "peak", 1, 599, 9999, 600)
            .due(1, "often", 1, 159);
        x.due(0, "agree", 1, 1, 597, 600, 0).due(0, "agree", 1, 1, 597, 600, 1).refused(-5, "agree", 1, 1, 599, 898, 0)
            .due(2, "measure", 1, 598, 159, 0);
        x.due(225, "next", 1).due(298, "gap", 1, 597, 0).refused(-5, "gap", 1, 599, 0).due(159, "flowOf", 1, 598, 600, 0)
            .due(0, "publish", 1, 598);
        x.due(3, "measure", 0, 298, 7, 0).due(7, "peak", 0, 298, 9999, 600).due(2, "agree", 0, 1, 298, 298, 0)
            .due(3, "agree", 0, 1, 298, 298, 1);
    }

    private static void calls() {
        Gauge x = new Gauge("An object is used for 512 calls");
        for (int i = 0; i < 6; i++) x.due(i, "post", i);
        x.due(9999, "go", 9999);
        for (int i = 0; i < 300; i++) x.due(i, "height", i % 6, 33 * i, i % 2, i);
        for (int i = 0; i < 60; i++) x.due(i, "measure", i % 6, 33 * i, i, 9);
        for (int i = 0; i < 60; i++) x.due(i + 1, "moved", i % 6, i, 33 * i);
        for (int i = 0; i < 40; i++) x.due(i + 1, "under", i % 6, i % 2, 33 * i, 33 * i, i);
        for (int i = 0; i < 40; i++) x.due(i, "publish", i % 6, 33 * (299 - 299 % 6 - 6 + i % 6));
        x.due(300, "count", 3).due(60, "count", 5).due(60, "count", 2).due(40, "count", 8).due(40, "count", 7);
    }
}
