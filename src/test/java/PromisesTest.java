/** Each promise by hand: ordinary inputs, the edges that the document names, and each refusal in its order. */
public final class PromisesTest {
    private static final int LEAST = -2147483648;
    private static final int MOST = 2147483647;

    public static void main(String[] args) {
        newObject();
        go();
        post();
        moved();
        zeroAt();
        height();
        strike();
        isStruck();
        strikeLetters();
        strikeAhead();
        standardsInForce();
        heightAt();
        measure();
        drop();
        counts();
        feed();
        standard();
        faults();
        sums();
        low();
        stretch();
        points();
        point();
        flowAt();
        under();
        flowOf();
        base();
        breaks();
        breaksOfEight();
        shift();
        put();
        judge();
        beside();
        gap();
        gapLetters();
        peak();
        often();
        agree();
        next();
        publish();
        publishLetters();
        published();
        mend();
        limit();
        count();
        Gauge.end();
    }

    private static void newObject() {
        Gauge x = new Gauge("promise 1, a new object");
        for (int what = 0; what <= 16; what++) x.due(0, "count", what);
        x.due(-9, "mend").due(5, "limit", 5).due(1, "go", 1).due(0, "post", 0);
    }

    private static void go() {
        Gauge x = new Gauge("promise 2, go");
        x.due(1, "go", 1).due(96, "go", 95).due(96, "count", 0);
        x.refused(-4, "go", 0).refused(-4, "go", -1).refused(-4, "go", LEAST);
        x.refused(-6, "go", 9904).refused(-6, "go", 10000).refused(-6, "go", MOST);
        x.due(9999, "go", 9903).refused(-6, "go", 1).due(9999, "count", 0);
        new Gauge("promise 2, go to the end").due(9999, "go", 9999);
    }

    private static void post() {
        Gauge x = new Gauge("promise 3, post");
        x.due(0, "post", -999).due(1, "post", 999).due(2, "post", 0);
        x.refused(-4, "post", -1000).refused(-4, "post", LEAST).refused(-6, "post", 1000).refused(-6, "post", MOST);
        x.due(3, "post", 1).due(4, "post", 2).due(5, "post", 3).due(6, "count", 1);
        x.refused(-6, "post", 0).refused(-4, "post", -1000).refused(-6, "post", 1000);
        x.due(-999, "zeroAt", 0, 0, 0).due(999, "zeroAt", 1, 0, 0).due(3, "zeroAt", 5, 0, 0);
    }

    private static void moved() {
        Gauge x = Scenes.at("promise 4, moved", 0, 10);
        x.refused(-1, "moved", -1, 0, 0).refused(-1, "moved", 1, -1000, 11);
        x.refused(-4, "moved", 0, -1000, 0).refused(-4, "moved", 0, 0, -1);
        x.refused(-4, "moved", 0, 1000, -1).refused(-4, "moved", 0, -1000, 11);
        x.refused(-6, "moved", 0, 1000, 0).refused(-6, "moved", 0, 0, 11);
        x.due(1, "moved", 0, -999, 10).due(2, "moved", 0, 999, 0);
        for (int i = 3; i <= 60; i++) x.due(i, "moved", 0, i, 5);
        x.refused(-6, "moved", 0, 0, 0).refused(-4, "moved", 0, 0, -1).refused(-1, "moved", 6, 0, 0);
        x.due(60, "count", 2).due(60, "zeroAt", 0, 5, 10).due(-999, "zeroAt", 0, 10, 10).due(999, "zeroAt", 0, 4, 10);
    }

    private static void zeroAt() {
        Gauge x = Scenes.at("promise 5, zeroAt", 7, 10);
        x.due(1, "post", -3).due(1, "moved", 0, 20, 5).due(11, "go", 1).due(2, "moved", 0, 30, 3);
        x.due(12, "go", 1).due(3, "moved", 0, 40, 5).due(4, "moved", 0, 50, 12);
        x.due(7, "zeroAt", 0, 5, 9).due(20, "zeroAt", 0, 5, 10).due(7, "zeroAt", 0, 4, 10);
        x.due(30, "zeroAt", 0, 4, 11).due(30, "zeroAt", 0, 3, 11).due(7, "zeroAt", 0, 2, 11);
        x.due(20, "zeroAt", 0, 5, 11).due(40, "zeroAt", 0, 5, 12).due(40, "zeroAt", 0, 11, 12);
        x.due(50, "zeroAt", 0, 9999, 9999).due(-3, "zeroAt", 1, 9999, 9999);
        x.refused(-1, "zeroAt", 2, -1, 0).refused(-1, "zeroAt", -1, 0, 0);
        x.refused(-4, "zeroAt", 0, -1, 10000).refused(-4, "zeroAt", 0, 10000, -1);
        x.refused(-6, "zeroAt", 0, 10000, 0).refused(-6, "zeroAt", 0, 0, 10000);
    }

    private static void height() {
        Gauge x = Scenes.at("promise 6, height", 0, 10);
        x.due(0, "height", 0, 0, 0, 0).due(1, "height", 0, 10, 1, 9999).due(2, "height", 0, 5, 0, -1);
        x.refused(-1, "height", 1, -1, 2, -2).refused(-1, "height", -1, 0, 0, 0);
        x.refused(-2, "height", 0, -1, 2, 0).refused(-2, "height", 0, 11, -1, 0);
        x.refused(-4, "height", 0, -1, 0, 10000).refused(-4, "height", 0, 11, 0, -2).refused(-4, "height", 0, 11, 1, -1);
        x.refused(-6, "height", 0, 11, 0, 0).refused(-6, "height", 0, 0, 1, 10000).refused(-6, "height", 0, 11, 0, -1);
        for (int i = 3; i < 300; i++) x.due(i, "height", 0, i % 11, i % 2, i);
        x.refused(-6, "height", 0, 0, 0, 0).refused(-4, "height", 0, 0, 1, -1).refused(-2, "height", 0, 0, 2, 0);
        x.due(300, "count", 3);
    }

    private static void strike() {
        Gauge x = Scenes.at("promise 7, strike", 0, 10);
        x.due(0, "height", 0, 1, 0, 5).due(1, "height", 0, 1, 0, -1).due(2, "height", 0, 1, 1, 6);
        x.refused(-1, "strike", -1).refused(-1, "strike", 3).refused(-3, "strike", 1);
        x.due(1, "strike", 2).due(5, "heightAt", 0, 1, 10).due(1, "count", 4);
        x.refused(-3, "strike", 2).due(1, "strike", 0).due(2, "count", 4).refused(-3, "strike", 0);
    }

    private static void isStruck() {
        Gauge x = Scenes.at("promise 8, isStruck", 0, 10);
        x.due(0, "height", 0, 1, 0, 50).due(1, "height", 0, 2, 0, -1).due(2, "height", 0, 3, 0, 60);
        x.due(11, "go", 1).standard("r>55", 0, 0).due(12, "go", 1).due(1, "strike", 2).due(1, "strike", 0);
        x.due(0, "isStruck", 2, 9).due(0, "isStruck", 2, 10).due(1, "isStruck", 2, 11).due(2, "isStruck", 2, 12);
        x.due(0, "isStruck", 0, 11).due(2, "isStruck", 0, 12).due(0, "isStruck", 1, 12).due(2, "isStruck", 0, 9999);
        x.refused(-1, "isStruck", -1, -1).refused(-1, "isStruck", 3, 0);
        x.refused(-4, "isStruck", 0, -1).refused(-6, "isStruck", 0, 10000);
    }

    private static void strikeLetters() {
        // At 195 it is the DAY 2, and its TIME 3; ahead of it is 100 at 190.
        String[] holds = {"d=2", "m=3", "r=130", "k=1", "a=30", "b=5", "g+h+n+f+w+x+i=0", "!d=3", "d<3&m>2", "d=9|k=1"};
        String[] fails = {"d=1", "m=2", "r=131", "k=0", "a<30", "b>5", "n=99", "!d=2", "d<3&m>3", "d=9|k=2"};
        for (int i = 0; i < holds.length; i++) {
            for (int j = 0; j < 2; j++) {
                Gauge x = Scenes.at("II, letters of STRIKE, " + (j == 0 ? holds[i] : fails[i]), 500, 0);
                x.standard(j == 0 ? holds[i] : fails[i], 0, 0).due(200, "go", 200);
                x.due(0, "height", 0, 190, 0, 100).due(1, "height", 0, 195, 1, 130);
                x.due(1 - j, "isStruck", 1, 200);
            }
        }
        Gauge x = Scenes.at("II, STRIKE with none ahead", 0, 10);
        x.standard("a=0&b=9999", 0, 0).due(0, "height", 0, 5, 0, 7).due(1, "isStruck", 0, 10);
        x.due(1, "post", 0).due(1, "height", 1, 6, 0, 9).due(1, "isStruck", 1, 10);
    }

    private static void strikeAhead() {
        Gauge x = Scenes.at("II, the HEIGHT ahead", 0, 10);
        x.standard("a>20", 0, 0);
        x.due(0, "height", 0, 3, 0, 100).due(1, "height", 0, 5, 0, 130).due(2, "height", 0, 5, 1, 140);
        x.due(3, "height", 0, 5, 0, -1).due(4, "height", 0, 6, 0, 155);
        x.due(0, "isStruck", 0, 10).due(1, "isStruck", 1, 10).due(0, "isStruck", 2, 10).due(0, "isStruck", 4, 10);
        x.due(11, "go", 1).due(5, "height", 0, 4, 0, 60);
        x.due(1, "isStruck", 5, 11).due(1, "isStruck", 1, 11).due(0, "isStruck", 5, 10);
        x.due(12, "go", 1).due(1, "strike", 2).due(1, "isStruck", 4, 12).due(0, "isStruck", 4, 11);
        x.due(1, "strike", 1).due(1, "isStruck", 4, 12).due(1, "strike", 5).due(1, "strike", 0).due(0, "isStruck", 4, 12);
    }

    private static void standardsInForce() {
        Gauge x = Scenes.at("II, in force", 0, 0);
        x.standard("r=1", 0, 0).standard("r=3", 0, 2).standard("r=2", 0, 1).standard("r=0", 1, 1);
        x.due(300, "go", 300);
        for (int i = 0; i < 4; i++) {
            for (int read = 1; read <= 3; read++) {
                int number = 3 * i + read - 1;
                x.due(number, "height", 0, Math.min(300, 95 * i + i), 0, read);
                x.due(Math.min(i, 2) + 1 == read ? 1 : 0, "isStruck", number, 300);
            }
        }
        Gauge y = Scenes.at("II, of several of a DAY", 0, 10);
        y.due(0, "height", 0, 1, 0, 5).due(0, "isStruck", 0, 10).standard("r=5", 0, 0).due(1, "isStruck", 0, 10);
        y.due(11, "go", 1).standard("r=6", 0, 0).due(0, "isStruck", 0, 11).due(1, "isStruck", 0, 10);
        y.due(0, "isStruck", 0, 9);
    }

    private static void heightAt() {
        Gauge x = Scenes.at("promise 9, heightAt", -7, 10);
        x.due(0, "height", 0, 4, 0, 100).due(1, "height", 0, 4, 1, 110).due(2, "height", 0, 4, 1, 120);
        x.due(3, "height", 0, 4, 0, 130).due(4, "height", 0, 4, 0, -1).due(5, "height", 0, 6, 0, 3);
        x.due(113, "heightAt", 0, 4, 10).due(-4, "heightAt", 0, 6, 10);
        x.due(12, "go", 2).due(1, "strike", 2).due(103, "heightAt", 0, 4, 12).due(113, "heightAt", 0, 4, 11);
        x.due(1, "strike", 1).due(123, "heightAt", 0, 4, 12).due(1, "strike", 3).due(93, "heightAt", 0, 4, 12);
        x.due(13, "go", 1).due(93, "heightAt", 0, 4, 13).due(1, "moved", 0, 1, 4).due(101, "heightAt", 0, 4, 13)
            .due(93, "heightAt", 0, 4, 12);
        x.due(14, "go", 1).standard("r=100", 0, 0).refused(-5, "heightAt", 0, 4, 14).due(101, "heightAt", 0, 4, 13);
        x.refused(-5, "heightAt", 0, 6, 9).refused(-5, "heightAt", 0, 5, 14).due(4, "heightAt", 0, 6, 9999);
        x.refused(-1, "heightAt", 1, -1, 0).refused(-4, "heightAt", 0, -1, 10000).refused(-4, "heightAt", 0, 10000, -1);
        x.refused(-6, "heightAt", 0, 10000, 0).refused(-6, "heightAt", 0, 0, 10000);
    }

    private static void measure() {
        Gauge x = Scenes.at("promise 10, measure", 0, 10);
        x.due(0, "measure", 0, 0, 0, 0).due(1, "measure", 0, 10, 99999, 99);
        x.refused(-1, "measure", 1, -1, -1, -1).refused(-1, "measure", -1, 0, 0, 0);
        x.refused(-4, "measure", 0, -1, 100000, 0).refused(-4, "measure", 0, 11, -1, 0).refused(-4, "measure", 0, 11, 0, -1);
        x.refused(-6, "measure", 0, 11, 0, 0).refused(-6, "measure", 0, 0, 100000, 0).refused(-6, "measure", 0, 0, 0, 100);
        for (int i = 2; i < 60; i++) x.due(i, "measure", 0, 1, i, 1);
        x.refused(-6, "measure", 0, 0, 0, 0).refused(-4, "measure", 0, 0, 0, -1).due(60, "count", 5);
    }

    private static void drop() {
        Gauge x = Scenes.curve("promise 11, drop");
        x.refused(-1, "drop", -1).refused(-1, "drop", 3);
        x.due(1, "drop", 1).refused(-3, "drop", 1).due(2, "points", 0, 0, 20).due(0, "counts", 1, 20);
        x.due(3, "count", 5).due(1, "counts", 2, 20).due(0, "count", 4);
    }

    private static void counts() {
        Gauge x = Scenes.at("promise 12, counts", 0, 10);
        x.due(0, "measure", 0, 5, 10, 0).due(0, "counts", 0, 10).due(11, "go", 1).due(0, "height", 0, 5, 0, 3);
        x.due(0, "counts", 0, 10).due(1, "counts", 0, 11).due(1, "counts", 0, 9999).due(1, "post", 0);
        Gauge y = Scenes.at("promise 12, a FLOW is known from NOW on", 0, 10);
        y.due(0, "height", 0, 5, 0, 3).due(11, "go", 1).due(0, "measure", 0, 5, 10, 0).due(0, "counts", 0, 10)
            .due(1, "counts", 0, 11);
        x.due(1, "measure", 1, 5, 10, 0).due(0, "counts", 1, 11).due(2, "measure", 0, 5, 1, 1).due(1, "counts", 2, 11);
        x.due(12, "go", 1).due(1, "drop", 0).due(0, "counts", 0, 12).due(1, "counts", 0, 11).due(1, "counts", 2, 12);
        x.due(13, "go", 1).due(1, "strike", 0).due(0, "counts", 2, 13).due(1, "counts", 2, 12).due(0, "counts", 2, 10);
        x.refused(-1, "counts", 3, -1).refused(-1, "counts", -1, 0).refused(-4, "counts", 0, -1)
            .refused(-6, "counts", 0, 10000);
    }

    private static void feed() {
        Gauge x = Scenes.at("promise 13, feed", 0, 10);
        x.refused(-4, "feed", 0, 0).refused(-4, "feed", LEAST, 0).refused(-6, "feed", 9, 0).refused(-6, "feed", MOST, 0);
        // "r=7" in the three lowest bytes; what lies above does not come.
        x.due(3, "feed", 3, 0x6161616161373d72L).due(0, "standard", 0, 0).due(0, "count", 9);
        x.due(0, "height", 0, 1, 0, 7).due(1, "isStruck", 0, 10).due(1, "height", 0, 2, 0, 8).due(0, "isStruck", 1, 10);
        for (int i = 1; i <= 7; i++) x.due(8 * i, "feed", 8, -1L);
        x.refused(-6, "feed", 5, 0).due(60, "feed", 4, 0).refused(-6, "feed", 1, 0).refused(-4, "feed", 0, 0);
        x.due(60, "count", 9).due(-20, "standard", 0, 0).due(0, "count", 9);
    }

    private static void standard() {
        Gauge x = Scenes.at("promise 14, standard", 0, 200);
        x.feed("r>1").refused(-2, "standard", 3, 1).refused(-2, "standard", -1, 201);
        x.refused(-4, "standard", 0, 1).refused(-4, "standard", 0, LEAST).refused(-6, "standard", 0, 201);
        x.due(3, "count", 9).due(0, "standard", 0, 2).due(0, "count", 9).due(1, "count", 6);
        x.due(0, "height", 0, 191, 0, 2).due(1, "height", 0, 192, 0, 2).due(0, "isStruck", 0, 200)
            .due(1, "isStruck", 1, 200);
        x.feed("r>").due(-22, "standard", 1, 200).due(0, "count", 9).due(1, "count", 6);
        x.standard("r>1", 2, 200);
        for (int i = 2; i < 20; i++) x.standard("1<2", i % 3, 2);
        x.feed("r").refused(-6, "standard", 0, 2).refused(-4, "standard", 0, 1).refused(-2, "standard", 5, 2);
        x.due(20, "count", 6).due(1, "count", 9);
        Gauge y = Scenes.at("promise 14, a FAULT is no refusal", 0, 0);
        y.feed("r").due(-21, "standard", 0, 0);
        for (int what = 1; what <= 16; what++) y.due(what == 1 ? 1 : 0, "count", what);
    }

    private static void faults() {
        faultAt("", 0);
        faultAt("a", 1);
        faultAt("a>", 2);
        faultAt("a>1&", 4);
        faultAt("a>1|", 4);
        faultAt("a>1&&b>1", 4);
        faultAt("a>1)", 3);
        faultAt("(a>1", 4);
        faultAt("(a>1)(", 5);
        faultAt("(a+1)>2", 4);
        faultAt("a>1=1", 3);
        faultAt("a>(1)", 2);
        faultAt("a+!b>1", 2);
        faultAt("a>-1", 2);
        faultAt("ab>1", 1);
        faultAt("1a>1", 1);
        faultAt("a1>1", 1);
        faultAt("123456>1", 5);
        faultAt("1>123456", 7);
        faultAt("c>1", 0);
        faultAt("A>1", 0);
        faultAt("a>1 ", 3);
        faultAt("a>1\0", 3);
        faultAt("a>1\u00e1", 3);
        faultAt("\u0161>1".replace('\u0161', (char) 0xe1), 0);
        faultAt("!!!!!!a>1", 5);
        faultAt("((((((a>1", 5);
        faultAt("!(!(!(a>1", 5);
        faultAt("a>1&((((((a>1", 9);
        faultAt("!!!!!", 5);
        faultAt("()", 1);
        faultAt("!", 1);
        faultAt("a*>1", 2);
        faultAt("1+2+3+4+5+6+7+8+9+1+2+3+4+5+6+7+8+9+1+2+3+4+5+6+7+8+9+1+2+3<", 60);
        stands("a>1");
        stands("!!!!!a>1");
        stands("(((((a>1)))))");
        stands("!(!(!a>1))&!(!(!a>1))|!!!!!a=1");
        faultAt("!(!(!a>1))&!(!(!(a>1", 16);
        stands("(a>1)&(b<1)|!(d=m)");
        stands("00001>99999");
        stands("d+m-r*k+a-b*g+h-n*f+w-x*i=0");
        stands("1+2+3+4+5+6+7+8+9+1+2+3+4+5+6+7+8+9+1+2+3+4+5+6+7+8+9+1+2<9");
    }

    private static void faultAt(String text, int place) {
        Gauge x = new Gauge("II, FAULT of " + text);
        x.feed(text).due(-20 - place, "standard", 0, 0).due(0, "count", 6).due(0, "count", 9);
    }

    private static void stands(String text) {
        new Gauge("II, no FAULT in " + text).feed(text).due(0, "standard", 0, 0).due(1, "count", 6).due(0, "count", 9);
    }

    private static void sums() {
        holds(1, "1+2*3=9");
        holds(1, "9-2-3=4");
        holds(1, "2*3-10<0");
        holds(1, "99999*99999=99999*10001");
        holds(1, "99999*99999-99999*1=99999*99999-99999*1");
        holds(1, "0-99999*99999<0-99999*9999");
        holds(0, "0-99999*99999<0-99999*10001");
        holds(1, "99999*99999-99999*99999>99999*10000");
        holds(0, "1>1");
        holds(0, "1<1");
        holds(1, "1=2|1=1&2=2");
        holds(1, "1=1|1=2&1=2");
        holds(0, "(1=1|1=2)&1=2");
        holds(0, "!1=1|1=2");
        holds(1, "!1=2&1=1");
        holds(0, "!(1=2|1=1)");
        holds(1, "!!1=1");
    }

    private static void holds(int struck, String text) {
        Gauge x = Scenes.at("II, " + text, 0, 1);
        x.standard(text, 0, 0).due(0, "height", 0, 1, 0, 1).due(struck, "isStruck", 0, 1);
    }

    private static void low() {
        Gauge x = Scenes.curve("promise 15, low");
        x.refused(-1, "low", 1, -2001).refused(-1, "low", -1, 0).refused(-4, "low", 0, -2001).refused(-6, "low", 0, 10000);
        x.due(-2000, "low", 0, 9999).due(9999, "low", 0, -2000).due(-2000, "low", 0, 50).due(50, "low", 0, 40);
        x.due(1, "post", 0).due(-2000, "low", 1, 5).due(40, "low", 0, 40);
    }

    private static void stretch() {
        Gauge x = Scenes.curve("promise 16, stretch");
        x.due(1, "post", 0).refused(-1, "stretch", 2, -1).refused(-4, "stretch", 0, -1).refused(-6, "stretch", 0, 10000);
        x.due(1, "stretch", 0, 3).refused(-3, "stretch", 0, 3).due(1, "stretch", 1, 3);
        x.due(2, "points", 0, 0, 20).due(2, "points", 0, 2, 20).due(1, "points", 0, 3, 20).due(1, "points", 0, 9999, 20);
        x.due(2, "stretch", 0, 2).due(1, "points", 0, 1, 20).due(1, "points", 0, 2, 20).due(1, "points", 0, 3, 20);
        x.due(200, "point", 0, 2, 20, 0, 0).due(300, "point", 0, 3, 20, 0, 0).due(3, "stretch", 0, 0);
        x.due(1, "points", 0, 0, 20);
        for (int i = 4; i <= 8; i++) x.due(i, "stretch", 0, 9990 + i);
        x.refused(-6, "stretch", 0, 7).refused(-3, "stretch", 0, 3).refused(-4, "stretch", 0, -1).due(2, "stretch", 1, 9999);
    }

    private static void points() {
        Gauge x = Scenes.curve("promise 17, points");
        x.due(3, "points", 0, 0, 20).due(3, "points", 0, 9999, 9999).due(0, "points", 0, 0, 19);
        x.due(3, "height", 0, 4, 0, 200).due(3, "measure", 0, 4, 170, 1).due(3, "points", 0, 0, 20);
        x.due(160, "point", 0, 0, 20, 1, 1).due(1, "post", 0).due(0, "points", 1, 0, 20);
        x.refused(-1, "points", 2, -1, 0).refused(-4, "points", 0, -1, 10000).refused(-4, "points", 0, 10000, -1);
        x.refused(-6, "points", 0, 10000, 0).refused(-6, "points", 0, 0, 10000);
    }

    private static void point() {
        Gauge x = Scenes.at("promise 18, point", 0, 20);
        int[] heights = {500, 100, 200, 300, 400, 200};
        int[] flows = {90, 60, 40, 51, 50, 43};
        for (int i = 0; i < 6; i++) x.due(i, "height", 0, i, 0, heights[i]).due(i, "measure", 0, i, flows[i], 1);
        // 60 | 40 and 43 | 51 | 50: the first two are one block of 143 by 3, the next two one of 101 by 2.
        int[] due = {100, 47, 200, 47, 300, 50, 400, 50, 500, 90};
        for (int i = 0; i < 10; i++) x.due(due[i], "point", 0, 7, 20, i / 2, i % 2);
        x.refused(-5, "point", 0, 7, 20, 5, 0).refused(-5, "point", 0, 7, 19, 0, 0).refused(-5, "point", 0, 7, 20, -1, 0);
        x.refused(-1, "point", 1, -1, 0, 0, 2).refused(-2, "point", 0, -1, 0, 0, 2).refused(-2, "point", 0, 0, 0, 0, -1);
        x.refused(-4, "point", 0, -1, 10000, 9, 0).refused(-4, "point", 0, 10000, -1, 9, 0);
        x.refused(-6, "point", 0, 10000, 0, 9, 0).refused(-6, "point", 0, 0, 10000, 9, 0);
        Gauge y = Scenes.at("III, blocks join further", 0, 20);
        int[] falling = {10, 40, 41, 0};
        for (int i = 0; i < 4; i++) y.due(i, "height", 0, i, 0, 10 * i).due(i, "measure", 0, i, falling[i], 1);
        y.due(10, "point", 0, 0, 20, 0, 1).due(27, "point", 0, 0, 20, 1, 1).due(27, "point", 0, 0, 20, 3, 1);
    }

    private static void flowAt() {
        Gauge x = Scenes.curve("promise 19, flowAt");
        x.due(50, "flowAt", 0, 0, 100).due(150, "flowAt", 0, 0, 200).due(450, "flowAt", 0, 0, 300);
        x.due(51, "flowAt", 0, 0, 101).due(153, "flowAt", 0, 0, 201).due(447, "flowAt", 0, 0, 299);
        x.due(453, "flowAt", 0, 0, 301).due(299547, "flowAt", 0, 0, 99999).due(450, "flowAt", 0, 9999, 300);
        x.due(49, "flowAt", 0, 0, 99).due(0, "flowAt", 0, 0, -2000).due(0, "flowAt", 0, 0, -9999)
            .due(0, "flowAt", 0, 0, -1999);
        x.due(-2000, "low", 0, 90).due(45, "flowAt", 0, 0, 99).due(5, "flowAt", 0, 0, 91).due(0, "flowAt", 0, 0, 90);
        x.due(90, "low", 0, 100).due(50, "flowAt", 0, 0, 99).due(50, "flowAt", 0, 0, -9999);
        x.due(100, "low", 0, 99).due(0, "flowAt", 0, 0, 99).due(0, "flowAt", 0, 0, 98);
        x.due(1, "post", 0).refused(-5, "flowAt", 1, 0, 0);
        x.refused(-1, "flowAt", 2, -1, 0).refused(-4, "flowAt", 0, -1, 100000).refused(-4, "flowAt", 0, 10000, -10000);
        x.refused(-6, "flowAt", 0, 10000, 0).refused(-6, "flowAt", 1, 0, 100000);
        Gauge y = Scenes.at("III, one POINT alone, and the most there is", 0, 20);
        y.due(0, "height", 0, 1, 0, 10).due(0, "measure", 0, 1, 7, 0).due(7, "flowAt", 0, 0, 99999)
            .due(7, "flowAt", 0, 0, 10);
        y.due(1, "height", 0, 2, 0, 11).due(1, "measure", 0, 2, 99999, 0);
        y.due(99999999, "flowAt", 0, 0, 2000).due(7 + 2 * 99992, "flowAt", 0, 0, 12);
    }

    private static void under() {
        Gauge x = Scenes.curve("promise 20, under");
        x.refused(-1, "under", 1, 2, -1, 0, 0).refused(-2, "under", 0, 2, -1, 0, 0).refused(-2, "under", 0, -1, 0, 0, 100);
        x.refused(-4, "under", 0, 0, -1, 10000, 0).refused(-4, "under", 0, 0, 5, 4, 100)
            .refused(-4, "under", 0, 0, 0, 10000, -1);
        x.refused(-4, "under", 0, 1, 10001, 10000, 0);
        x.refused(-6, "under", 0, 0, 0, 10000, 0).refused(-6, "under", 0, 0, 10000, 10000, 0)
            .refused(-6, "under", 0, 1, 0, 0, 100);
        x.due(1, "under", 0, 0, 3, 3, 99).due(2, "under", 0, 1, 0, 9999, 99).due(2, "count", 8);
        x.due(5, "flowOf", 0, 3, 20, 0).due(150, "flowOf", 0, 2, 20, 0);
        for (int i = 3; i <= 40; i++) x.due(i, "under", 0, i % 2, 9000, 9999, 0);
        x.refused(-6, "under", 0, 0, 0, 0, 0).refused(-4, "under", 0, 0, 0, 0, -1).refused(-2, "under", 0, 9, 0, 0, 0);
    }

    private static void flowOf() {
        Gauge x = Scenes.curve("promise 21, flowOf");
        x.due(450, "flowOf", 0, 3, 20, 0).due(10, "flowOf", 0, 3, 20, 1).due(0, "flowOf", 0, 3, 20, 2);
        x.due(3, "height", 0, 5, 0, 301).due(453, "flowOf", 0, 5, 20, 0).due(30, "flowOf", 0, 5, 20, 1)
            .due(1, "flowOf", 0, 5, 20, 2);
        x.due(21, "go", 1).due(1, "under", 0, 1, 1, 7, 10).due(2, "under", 0, 0, 5, 5, 20).due(3, "under", 0, 0, 4, 6, 15);
        // WEED at 5: 10 times 4 by 6, cut: 6. ICE 20: 453 less 90 is 363; less 21 is 342.
        x.due(342, "flowOf", 0, 5, 21, 0).due(453, "flowOf", 0, 5, 20, 0).due(30, "flowOf", 0, 5, 21, 1);
        x.due(50, "flowOf", 0, 1, 21, 0).due(437, "flowOf", 0, 3, 21, 0).due(4, "under", 0, 1, 2, 3, 50)
            .due(225, "flowOf", 0, 3, 21, 0);
        x.due(149, "flowOf", 0, 2, 21, 0).due(5, "under", 0, 1, 2, 2, 50).due(75, "flowOf", 0, 2, 21, 0);
        x.due(3, "measure", 0, 3, 450, 60).due(100, "flowOf", 0, 5, 21, 1).due(60, "flowOf", 0, 3, 21, 1);
        x.due(1, "post", 0).due(4, "height", 1, 3, 0, 5).refused(-5, "flowOf", 1, 3, 21, 0)
            .refused(-5, "flowOf", 0, 6, 21, 0);
        x.refused(-1, "flowOf", 2, -1, 0, 3).refused(-2, "flowOf", 0, -1, 0, 3).refused(-2, "flowOf", 0, 0, 10000, -1);
        x.refused(-4, "flowOf", 0, -1, 10000, 0).refused(-4, "flowOf", 0, 10000, -1, 0);
        x.refused(-6, "flowOf", 0, 10000, 0, 0).refused(-6, "flowOf", 0, 0, 10000, 0);
        // In the STRETCH from 3 on there is one POINT alone: 450 less 90, less 21.
        x.due(1, "stretch", 0, 3).due(339, "flowOf", 0, 5, 21, 0).due(1, "flowOf", 0, 5, 21, 2);
    }

    private static void base() {
        Gauge x = Scenes.curve("promise 22, base");
        x.refused(-1, "base", 1, 0, 0, 0).refused(-1, "base", 0, 1, -10000, 0).refused(-1, "base", 0, -1, 0, 0);
        x.refused(-4, "base", 0, 0, -10000, 100000).refused(-4, "base", 0, 0, 100000, -1);
        x.refused(-6, "base", 0, 0, 100000, 0).refused(-6, "base", 0, 0, 0, 100000);
        x.due(1, "base", 0, 0, -9999, 5).refused(-4, "base", 0, 1, -9999, 6).refused(-4, "base", 0, 1, 100000, 4);
        x.due(2, "base", 0, 1, 50, 5).due(3, "base", 0, 2, 51, 6).refused(-4, "base", 0, 2, 50, 6)
            .due(2, "base", 0, 1, 60, 7);
        for (int i = 2; i < 8; i++) x.due(i + 1, "base", 0, i, 60 + i, 7 + i);
        x.refused(-6, "base", 0, 8, 99999, 99999).refused(-4, "base", 0, 8, 67, 99999).refused(-1, "base", 0, 9, 0, 0);
        x.due(8, "base", 0, 7, 99999, 99999).due(1, "base", 0, 0, 99999, 99999).refused(-1, "base", 0, 2, 0, 0);
    }

    /** A base of 10 a height, and FLOWS that go with 0, 0, 20, 20 at TIMES 1 .. 4. */
    private static Gauge bed(String title) {
        Gauge x = Scenes.at(title, 0, 50);
        x.due(1, "base", 0, 0, 0, 0).due(2, "base", 0, 1, 100, 1000);
        int[] reads = {50, 60, 50, 40};
        int[] flows = {500, 600, 700, 600};
        for (int i = 0; i < 4; i++) x.due(i, "height", 0, i + 1, 0, reads[i]).due(i, "measure", 0, i + 1, flows[i], 1);
        return x;
    }

    private static void breaks() {
        Gauge x = bed("promise 23, breaks");
        x.due(1, "breaks", 0, 0).due(1, "breaks", 0, 1).due(2, "breaks", 0, 2).due(4, "breaks", 0, 3);
        x.due(1, "drop", 1).due(1, "breaks", 0, 0).due(1, "breaks", 0, 2).due(3, "breaks", 0, 3);
        // One that goes with both sides makes a rival, and the lesser set is told.
        x.due(4, "height", 0, 2, 1, 60).due(4, "measure", 0, 2, 700, 20);
        x.due(1, "breaks", 0, 0).due(2, "breaks", 0, 1).due(1, "breaks", 0, 2).due(4, "breaks", 0, 3);
        x.due(5, "measure", 0, 9, 1, 1).due(4, "breaks", 0, 3).due(5, "height", 0, 9, 0, 9999);
        x.due(5, "breaks", 0, 3).due(-9, "breaks", 0, 0).due(-9, "breaks", 0, 1).due(-9, "breaks", 0, 2);
        x.refused(-1, "breaks", 1, 4).refused(-1, "breaks", -1, 0).refused(-2, "breaks", 0, 4).refused(-2, "breaks", 0, -1);
        x.due(1, "post", 0).refused(-5, "breaks", 1, 0).refused(-5, "breaks", 1, 3).due(1, "base", 1, 0, 0, 0);
        x.refused(-5, "breaks", 1, 3).due(6, "height", 1, 5, 0, 5).due(6, "measure", 1, 5, 0, 0).due(1, "breaks", 1, 3);
        x.due(0, "breaks", 1, 0).due(1, "breaks", 1, 1).due(0, "breaks", 1, 2);
        Gauge y = Scenes.curve("promise 23, FLOWS without a base");
        y.refused(-5, "breaks", 0, 0).refused(-5, "breaks", 0, 3);
    }

    private static void breaksOfEight() {
        Gauge x = Scenes.at("IV, the first 8", 0, 50);
        x.due(1, "base", 0, 0, 0, 0).due(2, "base", 0, 1, 1000, 1000);
        for (int i = 0; i < 10; i++) {
            int time = 10 - i;
            x.due(i, "height", 0, time, 0, 500).due(i, "measure", 0, time, time > 8 ? 9 : 500 + 10 * (time % 2), 0);
        }
        x.due(8, "breaks", 0, 3).due(7, "breaks", 0, 0).due(1, "breaks", 0, 1).due(127, "breaks", 0, 2);
        x.due(10, "shift", 0, 0).due(0, "shift", 0, 1).due(10, "shift", 0, 6).due(0, "shift", 0, 7)
            .refused(-1, "shift", 0, 8);
        Gauge y = Scenes.at("IV, of one TIME by numbers", 0, 50);
        y.due(1, "base", 0, 0, 0, 0).due(2, "base", 0, 1, 1000, 1000).due(0, "height", 0, 5, 0, 500);
        y.due(0, "measure", 0, 5, 500, 0).due(1, "measure", 0, 5, 510, 0).due(2, "measure", 0, 5, 510, 0);
        y.due(1, "breaks", 0, 2).due(0, "shift", 0, 0).due(10, "shift", 0, 1);
    }

    private static void shift() {
        Gauge x = bed("promise 24, shift");
        x.due(0, "shift", 0, 0).due(20, "shift", 0, 1).refused(-1, "shift", 0, 2).refused(-1, "shift", 0, -1);
        x.refused(-1, "shift", 1, 0).refused(-1, "shift", -1, 0);
        x.due(1, "base", 0, 0, 7, 7).refused(-3, "shift", 0, 9).due(1, "post", 0).refused(-5, "shift", 1, 9);
        // At 50 and 60 the base has 490 and 510, at 40 .. 60 all from 490 to 510: of 10 below and above, the one below 0.
        Gauge y = Scenes.at("IV, below 0 first", 0, 50);
        y.due(1, "base", 0, 0, 40, 480).due(2, "base", 0, 1, 49, 500).due(3, "base", 0, 2, 51, 510)
            .due(4, "base", 0, 3, 60, 510);
        y.due(0, "height", 0, 1, 0, 50).due(0, "measure", 0, 1, 505, 0).due(0, "shift", 0, 0);
        y.due(1, "drop", 0).due(1, "measure", 0, 1, 510, 0).due(1, "shift", 0, 0).due(1, "drop", 1);
        y.due(2, "measure", 0, 1, 500, 0).due(-1, "shift", 0, 0);
        Gauge z = Scenes.at("IV, SHIFTS as far as 50", 0, 50);
        z.due(1, "base", 0, 0, 0, 0).due(2, "base", 0, 1, 1000, 1000).due(0, "height", 0, 1, 0, 500);
        z.due(0, "measure", 0, 1, 550, 0).due(50, "shift", 0, 0).due(1, "drop", 0);
        z.due(1, "measure", 0, 1, 450, 0).due(-50, "shift", 0, 0).due(1, "drop", 1);
        z.due(2, "measure", 0, 1, 551, 0).refused(-3, "shift", 0, 0).due(1, "drop", 2);
        z.due(3, "measure", 0, 1, 449, 0).refused(-3, "shift", 0, 0).due(1, "drop", 3);
        // 600 lets 540 .. 660, so with 5 hundredths less it would not.
        z.due(4, "measure", 0, 1, 600, 10).due(40, "shift", 0, 0).due(1, "drop", 4);
        z.due(5, "measure", 0, 1, 409, 11).due(-47, "shift", 0, 0);
        for (int shift = -50; shift <= 50; shift++) {
            Gauge each = Scenes.at("IV, each SHIFT, here " + shift, 0, 50);
            each.due(1, "base", 0, 0, 0, 0).due(2, "base", 0, 1, 1000, 1000).due(0, "height", 0, 1, 0, 500);
            each.due(0, "measure", 0, 1, 500 + shift, 0).due(shift, "shift", 0, 0);
            each.due(1, "put", 0).due(2, "put", shift).due(-9, "judge", 0).due(1, "put", 0).due(2, "put", shift + 1)
                .due(1, "judge", 0);
        }
        Gauge w = Scenes.at("IV, a lowest POINT at -2000, whatever LOW is", -999, 50);
        w.due(1, "base", 0, 0, 0, 2000).due(0, "height", 0, 1, 0, 0).due(0, "measure", 0, 1, 1000, 0).due(-1, "shift", 0, 0);
        w.due(-2000, "low", 0, -500).due(-1, "shift", 0, 0);
    }

    private static void put() {
        Gauge x = new Gauge("promise 25, put");
        x.due(1, "put", -128).due(2, "put", 127).refused(-4, "put", -129).refused(-6, "put", 128);
        for (int i = 3; i <= 12; i++) x.due(i, "put", 0);
        x.refused(-6, "put", 0).refused(-4, "put", -129).due(12, "count", 10);
    }

    private static void judge() {
        judged(-9, 2, 0, 20);
        judged(0);
        judged(0, 8, 0, 0, 0, 0);
        judged(0, -128, 0);
        judged(0, -1, 0);
        judged(0, 127, 0);
        judged(1, 2);
        judged(1, 2, 1, 20);
        judged(1, 2, 51, 20);
        judged(2, 2, 0);
        judged(2, 2, 0, 19);
        judged(2, 2, 0, -128);
        judged(3, 2, 0, 20, 0);
        judged(3, 2, 0, 20, 0, 0);
        judged(1, 0, 0);
        judged(2, 1, 0, 0);
        judged(-9, 7, 0, 0, 20, 20);
        judged(-9, 3, 0, 0, 20);
        judged(5, 7, 0, 0, 20, 20, 20);
        judged(4, 7, 0, 0, 20);
        Gauge x = bed("promise 26, judge");
        x.due(1, "put", 2).due(2, "put", 0).refused(-1, "judge", 1).refused(-1, "judge", -1);
        x.due(1, "post", 0).refused(-5, "judge", 1).due(1, "base", 1, 0, 0, 0).refused(-5, "judge", 1);
        x.due(3, "put", 20).due(-9, "judge", 0).due(0, "count", 10).due(0, "judge", 0);
        Gauge y = Scenes.at("IV, a SHIFT is 50 at most", 0, 50);
        y.due(1, "base", 0, 0, 0, 7).due(0, "height", 0, 1, 0, 100).due(0, "measure", 0, 1, 7, 0);
        y.due(1, "put", 0).due(2, "put", 50).due(-9, "judge", 0).due(1, "put", 0).due(2, "put", 51).due(1, "judge", 0);
        y.due(1, "put", 0).due(2, "put", -50).due(-9, "judge", 0).due(1, "put", 0).due(2, "put", -51).due(1, "judge", 0);
        y.due(1, "put", 1).due(0, "judge", 0);
    }

    private static void judged(int place, int... bytes) {
        Gauge x = bed("promise 26, judge of " + java.util.Arrays.toString(bytes));
        for (int i = 0; i < bytes.length; i++) x.due(i + 1, "put", bytes[i]);
        x.due(place, "judge", 0).due(0, "count", 10);
    }

    private static void beside() {
        Gauge x = Scenes.at("promise 27, beside", 0, 10);
        x.due(1, "post", 0).due(2, "post", 0);
        x.due(-1, "beside", 0, 1).due(1, "beside", 0, 2).due(2, "beside", 0, -1).due(-1, "beside", 0, -1)
            .due(-1, "beside", 1, 0);
        x.refused(-1, "beside", 3, 0).refused(-1, "beside", -1, 0).refused(-1, "beside", 0, 0).refused(-1, "beside", 0, 3);
        x.refused(-1, "beside", 0, -2);
    }

    private static Gauge gapped(String title) {
        Gauge x = Scenes.at(title, 0, 400);
        x.due(1, "post", 100).due(0, "height", 0, 10, 0, 100).due(1, "height", 0, 20, 0, 200);
        return x;
    }

    private static void gap() {
        Gauge x = gapped("promise 28, gap");
        x.due(130, "gap", 0, 13, 0).due(10, "gap", 0, 13, 1).due(20, "gap", 0, 13, 2).due(0, "gap", 0, 13, 3);
        x.due(2, "height", 1, 10, 0, 60).due(3, "height", 1, 20, 0, 50).due(-1, "beside", 0, 1).due(130, "gap", 0, 13, 0);
        // The neighbour lies at 160 less 3 there, and has 163: 6 more.
        x.due(4, "height", 1, 13, 0, 63).due(136, "gap", 0, 13, 0).due(1, "gap", 0, 13, 3).due(0, "gap", 0, 14, 3);
        x.due(5, "height", 1, 15, 0, 0).due(95, "gap", 0, 15, 0);
        x.due(1, "strike", 3).due(130, "gap", 0, 13, 0).due(0, "gap", 0, 13, 3);
        x.refused(-3, "gap", 0, 10, 0).refused(-5, "gap", 0, 9, 0).refused(-5, "gap", 0, 21, 1)
            .refused(-5, "gap", 0, 9999, 0);
        x.refused(-1, "gap", 2, -1, 4).refused(-2, "gap", 0, -1, 4).refused(-2, "gap", 0, 10000, -1);
        x.refused(-4, "gap", 0, -1, 0).refused(-6, "gap", 0, 10000, 0);
        Gauge z = Scenes.at("V, the first POST as a NEIGHBOUR", 0, 400);
        z.due(1, "post", 0).due(-1, "beside", 1, 0).due(0, "height", 1, 1, 0, 0).due(1, "height", 1, 5, 0, 4);
        z.due(2, "height", 0, 1, 0, 0).due(3, "height", 0, 5, 0, 40).due(2, "gap", 1, 3, 0).due(0, "gap", 1, 3, 3);
        z.due(4, "height", 0, 3, 0, 27).due(9, "gap", 1, 3, 0).due(1, "gap", 1, 3, 3).due(0, "beside", 1, -1);
        z.due(2, "gap", 1, 3, 0).due(0, "gap", 1, 3, 3);
        Gauge y = Scenes.at("V, within 200 TIMES, cut toward 0", 0, 400);
        y.due(0, "height", 0, 1, 0, 10).due(1, "height", 0, 201, 0, 0).due(2, "height", 0, 400, 0, 0);
        y.due(10, "gap", 0, 2, 0).due(1, "gap", 0, 200, 0).due(1, "gap", 0, 200, 1).due(201, "gap", 0, 2, 2)
            .due(0, "gap", 0, 300, 0);
        y.due(1, "strike", 1).refused(-5, "gap", 0, 201, 0).due(3, "height", 0, 202, 0, 0).refused(-5, "gap", 0, 2, 0);
        y.due(1, "post", 0).due(4, "height", 1, 5, 0, 1).refused(-5, "gap", 1, 4, 0).refused(-5, "gap", 1, 6, 0);
        y.due(2, "post", 0).refused(-5, "gap", 2, 6, 0);
    }

    private static void gapLetters() {
        String[] lets = {"d=4", "m=16", "g=10", "h=1", "n=1", "r+k+a+b+f+w+x+i=0"};
        String[] not = {"d=0", "m=15", "g=9", "h=2", "n=99", "r=1"};
        for (int i = 0; i < lets.length; i++) {
            for (int j = 0; j < 2; j++) {
                Gauge x = Scenes.at("II, letters of FILL, " + (j == 0 ? lets[i] : not[i]), 0, 420);
                x.due(1, "post", 0).due(0, "height", 0, 395, 0, 0).due(1, "height", 0, 405, 0, 10).due(-1, "beside", 0, 1);
                x.due(2, "height", 1, 395, 0, 0).due(3, "height", 1, 405, 0, 10).due(4, "height", 1, 400, 0, 7);
                x.standard(j == 0 ? lets[i] : not[i], 1, 4);
                if (j == 0) x.due(7, "gap", 0, 400, 0);
                else x.refused(-3, "gap", 0, 400, 0).refused(-3, "gap", 0, 400, 3).refused(-3, "gap", 0, 395, 0);
                x.refused(-5, "gap", 0, 406, 0);
            }
        }
        Gauge y = Scenes.at("II, n and h with the first POST", 0, 10);
        y.due(1, "post", 0).due(-1, "beside", 1, 0).due(0, "height", 1, 1, 0, 0).due(1, "height", 1, 5, 0, 4);
        y.due(2, "height", 0, 3, 0, 7).standard("n=99&h=1", 1, 0).due(2, "gap", 1, 3, 0).due(3, "height", 0, 1, 0, 7);
        y.due(4, "height", 0, 5, 0, 7).refused(-3, "gap", 1, 3, 0).standard("n=0&h=1", 1, 0).due(2, "gap", 1, 3, 0);
        Gauge x = gapped("II, n and h without a NEIGHBOUR, by the DAY of the TIME");
        x.standard("n=99&h=0", 1, 4).due(2, "height", 0, 380, 0, 1).due(3, "height", 0, 390, 0, 1)
            .due(4, "height", 1, 389, 0, 1);
        x.due(1, "gap", 0, 388, 0).refused(-3, "gap", 0, 389, 0).due(110, "gap", 0, 11, 0).due(1, "gap", 0, 381, 0);
        x.standard("1=2", 1, 4).due(1, "gap", 0, 383, 0).refused(-3, "gap", 0, 384, 0);
    }

    private static void peak() {
        Gauge x = Scenes.curve("promise 29, peak");
        x.due(450, "peak", 0, 0, 9999, 20).due(450, "peak", 0, 3, 3, 20).due(150, "peak", 0, 0, 2, 20)
            .due(150, "peak", 0, 2, 2, 9999);
        x.due(1, "under", 0, 0, 3, 3, 90).due(150, "peak", 0, 1, 3, 20).due(21, "go", 1).due(1, "drop", 2);
        x.due(25, "peak", 0, 3, 3, 21).due(45, "peak", 0, 3, 3, 20);
        x.refused(-5, "peak", 0, 4, 9999, 20).refused(-5, "peak", 0, 0, 9999, 19).due(1, "post", 0)
            .refused(-5, "peak", 1, 0, 9999, 20);
        x.refused(-1, "peak", 2, 1, 0, 0).refused(-4, "peak", 0, 1, 0, 10000).refused(-4, "peak", 0, -1, 10000, 0);
        x.refused(-4, "peak", 0, 0, 10000, -1).refused(-6, "peak", 0, 0, 10000, 0).refused(-6, "peak", 0, 0, 0, 10000);
        x.due(3, "height", 1, 3, 0, 5).refused(-5, "peak", 1, 0, 9999, 21);
    }

    private static void often() {
        Gauge x = Scenes.at("promise 30, often", 0, 9999);
        int[] times = {0, 999, 1000, 2999, 9000, 9999};
        int[] reads = {10, 20, 10, 5, 10, 30};
        for (int i = 0; i < 6; i++) x.due(i, "height", 0, times[i], 0, reads[i]);
        x.due(0, "often", 0, 0).due(0, "measure", 0, 0, 100, 0).due(1, "measure", 0, 9999, 300, 0);
        x.due(4, "often", 0, 0).due(3, "often", 0, 100).due(2, "often", 0, 101).due(2, "often", 0, 200)
            .due(1, "often", 0, 201);
        x.due(1, "often", 0, 300).due(0, "often", 0, 301).due(0, "often", 0, 99999999);
        x.refused(-1, "often", 1, -1).refused(-4, "often", 0, -1).refused(-6, "often", 0, 100000000);
        x.due(1, "post", 0).due(0, "often", 1, 0);
    }

    private static void agree() {
        Gauge x = Scenes.at("promise 31, agree", 0, 400);
        x.due(1, "post", 0);
        int number = 0;
        // Flow is height: of the one at 10, 11, 12, of the other two later with a little more.
        for (int post = 0; post < 2; post++) {
            for (int i = 0; i < 3; i++) {
                int read = 100 * (i + 1) + post * i;
                x.due(number, "height", post, 10 + i + 2 * post, 0, read)
                    .due(number, "measure", post, 10 + i + 2 * post, read, 0);
                number++;
            }
        }
        x.due(2, "agree", 0, 1, 10, 12, 0).due(1, "agree", 0, 1, 10, 12, 1).due(1, "agree", 0, 1, 10, 12, 2);
        x.due(2, "agree", 0, 1, 11, 12, 0).due(3, "agree", 0, 1, 11, 12, 1).due(2, "agree", 0, 1, 11, 12, 2);
        x.due(0, "agree", 1, 0, 12, 14, 0).due(200, "agree", 1, 0, 12, 14, 1).due(1, "agree", 1, 0, 12, 14, 2);
        x.due(0, "agree", 0, 0, 0, 299, 0).due(0, "agree", 0, 0, 0, 299, 1).due(1, "agree", 0, 0, 0, 299, 2);
        x.refused(-5, "agree", 0, 1, 20, 30, 0).refused(-5, "agree", 1, 0, 13, 14, 0).due(2, "agree", 0, 1, 12, 12, 0);
        x.refused(-1, "agree", 2, 0, 5, 4, 3).refused(-1, "agree", 0, 2, 5, 4, 3).refused(-1, "agree", -1, 0, 0, 0, 0);
        x.refused(-2, "agree", 0, 1, 5, 4, 3).refused(-2, "agree", 0, 1, 0, 0, -1).refused(-4, "agree", 0, 1, -1, 400, 0);
        x.refused(-4, "agree", 0, 1, 10001, 10000, 0).refused(-6, "agree", 0, 1, 0, 300, 0)
            .refused(-6, "agree", 0, 1, 9999, 10000, 0);
        x.due(2, "agree", 0, 1, 12, 311, 0).due(2, "agree", 0, 1, 12, 311, 1).due(1, "agree", 0, 1, 12, 311, 2);
        Gauge y = Scenes.at("VI, LAG as far as 20, the least of several", 0, 9999);
        y.due(1, "post", 0).due(0, "height", 0, 9979, 0, 50).due(0, "measure", 0, 9979, 50, 0);
        y.due(1, "height", 1, 9999, 0, 40).due(1, "measure", 1, 9999, 40, 0);
        y.due(20, "agree", 0, 1, 9979, 9979, 0).due(10, "agree", 0, 1, 9700, 9999, 1)
            .refused(-5, "agree", 1, 0, 9700, 9999, 0);
        y.due(2, "height", 0, 9978, 0, 50).due(20, "agree", 0, 1, 9978, 9979, 0).refused(-5, "agree", 0, 1, 9978, 9978, 0);
        y.due(3, "height", 1, 9989, 0, 40).due(10, "agree", 0, 1, 9978, 9979, 0);
    }

    private static void next() {
        Gauge x = Scenes.curve("promise 32, next");
        x.due(150, "next", 0).due(3, "height", 0, 4, 0, 250).due(250, "next", 0).due(4, "height", 0, 5, 0, 101);
        x.due(150, "next", 0).due(5, "height", 0, 6, 0, 300).due(6, "height", 0, 7, 0, 200).due(150, "next", 0);
        x.due(7, "height", 0, 8, 0, 299).due(250, "next", 0).due(8, "height", 0, 8, 1, 100).due(150, "next", 0);
        x.due(1, "stretch", 0, 3).due(150, "next", 0).due(9999, "go", 9979).due(9, "height", 0, 9999, 0, 250);
        x.due(250, "next", 0);
        x.refused(-1, "next", 1).refused(-1, "next", -1).due(1, "post", -3).refused(-5, "next", 1);
        x.due(10, "height", 1, 1, 0, 0).due(3, "measure", 1, 1, 5, 0).refused(-5, "next", 1);
        x.due(11, "height", 1, 2, 0, 3).due(4, "measure", 1, 2, 5, 0).due(-2, "next", 1);
        x.due(12, "height", 1, 3, 0, 10).due(5, "measure", 1, 3, 5, 0).due(-2, "next", 1);
        x.due(13, "height", 1, 4, 0, 1).due(14, "height", 1, 5, 0, 2).due(-2, "next", 1).due(15, "height", 1, 6, 0, 4)
            .due(3, "next", 1);
    }

    private static void publish() {
        Gauge x = Scenes.curve("promise 33, publish");
        x.due(0, "publish", 0, 3).due(1, "publish", 0, 3).due(2, "publish", 0, 1).refused(-5, "publish", 0, 4);
        x.refused(-1, "publish", 1, -1).refused(-4, "publish", 0, -1).refused(-6, "publish", 0, 10000)
            .refused(-5, "publish", 0, 9999);
        x.standard("f>100", 2, 0).refused(-3, "publish", 0, 1).due(3, "publish", 0, 2).refused(-5, "publish", 0, 4);
        for (int i = 4; i < 40; i++) x.due(i, "publish", 0, 3);
        x.refused(-6, "publish", 0, 3).refused(-6, "publish", 0, 4).refused(-4, "publish", 0, -1).due(40, "count", 7);
    }

    private static void publishLetters() {
        String[] lets = {"d=1", "m=4", "f=453", "w=30", "x=1", "i=0", "r+k+a+b+g+h+n=0"};
        String[] not = {"d=0", "m=5", "f<453", "w=10", "x=0", "i=1", "n=99"};
        for (int i = 0; i < lets.length; i++) {
            for (int j = 0; j < 2; j++) {
                Gauge x = Scenes.at("II, letters of PUBLISH, " + (j == 0 ? lets[i] : not[i]), 0, 0);
                x.standard(j == 0 ? lets[i] : not[i], 2, 1).due(110, "go", 110);
                x.due(0, "height", 0, 2, 0, 200).due(1, "height", 0, 3, 0, 300).due(2, "height", 0, 100, 0, 301);
                x.due(0, "measure", 0, 2, 150, 10).due(1, "measure", 0, 3, 450, 7).due(0, "publish", 0, 3);
                if (j == 0) x.due(1, "publish", 0, 100);
                else x.refused(-3, "publish", 0, 100);
            }
        }
        Gauge x = Scenes.curve("II, ICE or WEED is on");
        x.standard("i=1", 2, 0).refused(-3, "publish", 0, 1).due(1, "under", 0, 0, 1, 1, 0).due(0, "publish", 0, 1);
        x.refused(-3, "publish", 0, 2).due(2, "under", 0, 1, 2, 3, 9).due(1, "publish", 0, 2).due(2, "publish", 0, 3);
    }

    private static void published() {
        Gauge x = Scenes.curve("promise 34, published");
        x.due(0, "publish", 0, 3).due(1, "post", 0).due(3, "height", 1, 7, 0, 5).due(3, "measure", 1, 7, 9, 0)
            .due(1, "publish", 1, 7);
        x.due(0, "published", 0, 0).due(3, "published", 0, 1).due(450, "published", 0, 2).due(450, "published", 0, 3);
        x.due(1, "published", 1, 0).due(7, "published", 1, 1).due(9, "published", 1, 2).due(9, "published", 1, 3);
        x.due(1, "under", 0, 0, 3, 3, 10).due(450, "published", 0, 2).due(405, "published", 0, 3);
        x.due(1, "drop", 3).due(9, "published", 1, 2).due(-9, "published", 1, 3).due(1, "strike", 2)
            .due(-9, "published", 0, 3);
        x.refused(-1, "published", 2, 4).refused(-1, "published", -1, 0).refused(-2, "published", 0, 4)
            .refused(-2, "published", 0, -1);
    }

    private static void mend() {
        Gauge x = Scenes.curve("promise 35, mend");
        x.due(-9, "mend").due(0, "publish", 0, 1).due(1, "publish", 0, 3).due(2, "publish", 0, 2).due(-9, "mend");
        // 450 less 5 hundredths, cut, is 428: 22 of 450 is not more than 22.5.
        x.due(1, "under", 0, 0, 3, 3, 5).due(-9, "mend").due(5, "limit", 4).due(1, "mend").due(4, "limit", 5);
        x.due(2, "under", 0, 0, 3, 3, 6).due(1, "mend").due(5, "limit", 6).due(-9, "mend").due(6, "limit", 100);
        x.due(3, "under", 0, 0, 3, 3, 99).due(-9, "mend").due(1, "strike", 1).due(2, "mend").due(1, "strike", 0)
            .due(0, "mend");
        Gauge y = Scenes.at("VII, more than was told, and of 0", 0, 20);
        y.due(0, "height", 0, 1, 0, 10).due(0, "measure", 0, 1, 100, 0).due(0, "publish", 0, 1)
            .due(1, "measure", 0, 1, 110, 0);
        y.due(105, "published", 0, 3).due(-9, "mend").due(2, "measure", 0, 1, 108, 0).due(106, "published", 0, 3)
            .due(0, "mend");
        Gauge z = Scenes.at("VII, of 0", 0, 20);
        z.due(0, "height", 0, 1, 0, 10).due(0, "measure", 0, 1, 0, 0).due(0, "publish", 0, 1).due(-9, "mend")
            .due(5, "limit", 100);
        z.due(1, "measure", 0, 1, 1, 0).due(-9, "mend").due(2, "measure", 0, 1, 2, 0).due(0, "mend");
    }

    private static void limit() {
        Gauge x = Scenes.curve("promise 36, limit");
        x.due(5, "limit", 0).due(0, "limit", 100).due(100, "limit", 7).refused(-4, "limit", -1).refused(-6, "limit", 101);
        x.due(7, "limit", 7);
    }

    private static void count() {
        Gauge x = Scenes.curve("promise 37, count");
        x.due(1, "moved", 0, 0, 0).due(1, "strike", 2).due(1, "under", 0, 0, 0, 0, 0).due(2, "under", 0, 1, 0, 0, 0);
        x.standard("1=1", 0, 5).due(0, "publish", 0, 1).due(1, "publish", 0, 2).feed("ab").due(1, "put", 1)
            .due(2, "put", 1).due(3, "put", 1);
        int[] due = {20, 1, 1, 3, 1, 3, 1, 2, 2, 2, 3, 0, 0, 0, 0, 0, 0};
        for (int what = 0; what <= 16; what++) x.due(due[what], "count", what);
        x.due(-9, "count", 17).due(-9, "count", -1).due(-9, "count", MOST).due(-9, "count", LEAST);
        for (int code = 1; code <= 6; code++) x.due(0, "count", 10 + code);
        x.due(-1, "drop", 9).due(-2, "breaks", 0, 9).due(-3, "strike", 2).due(-4, "go", 0).due(-5, "judge", 0)
            .due(-6, "limit", 101);
        x.due(1000000005, "heightAt", 0, 9, 0).due(-6, "limit", 102);
        int[] refused = {1, 1, 1, 1, 2, 2};
        for (int code = 1; code <= 6; code++) x.due(refused[code - 1], "count", 10 + code);
    }
}
