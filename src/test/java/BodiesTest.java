/** Promises 18 and 19, and what is told by counts: could, bodies, the surplus. */
public final class BodiesTest {
    private BodiesTest() {
    }

    public static void main(String[] args) {
        fewPins();
        twoTriangles();
        bodiesAreAsGreatAsCanBe();
        bodiesAreNumberedByTheirPins();
        sixWithThreeLegs();
        surplusOfAPart();
        heldPinsAndPlacesDoNotMatter();
        outRodsDoNotCount();
        refused();
        Due.end();
    }

    private static RodBench pins(int many) {
        int[][] places = {{0, 0}, {5, 1}, {4, 5}, {1, 4}, {2, 2}, {3, 0}};
        RodBench x = new RodBench();
        for (int i = 0; i < many; i++) {
            x.pin(places[i][0], places[i][1]);
        }
        return x;
    }

    private static void rods(RodBench x, int[][] ends) {
        for (int[] two : ends) {
            Due.holds("a rod " + two[0] + "-" + two[1], x.rod(0, two[0], two[1], 0) >= 0);
        }
    }

    private static void bodies(String frame, RodBench x, int[][] due) {
        Due.is(frame + ": count(7)", due.length, x.count(7));
        for (int body = 0; body < due.length; body++) {
            for (int i = 0; i < 6; i++) {
                int want = i < due[body].length ? due[body][i] : -1;
                Due.is(frame + ": body(" + body + ", " + i + ")", want, x.body(body, i));
            }
        }
        Due.is(frame + ": body(" + due.length + ", 0)", -2, x.body(due.length, 0));
    }

    private static void fewPins() {
        RodBench x = new RodBench();
        Due.is("no pin: could()", 0, x.could());
        x = pins(1);
        Due.is("one pin: could()", 0, x.could());
        bodies("one pin", x, new int[][] {});
        x = pins(2);
        Due.is("two pins: could()", 0, x.could());
        bodies("two pins", x, new int[][] {});
        rods(x, new int[][] {{1, 0}});
        Due.is("two pins, a rod: could()", 1, x.could());
        bodies("two pins, a rod", x, new int[][] {{0, 1}});
        x = pins(3);
        rods(x, new int[][] {{1, 2}});
        Due.is("three pins, a rod: could()", 0, x.could());
        bodies("three pins, a rod", x, new int[][] {{1, 2}});
    }

    private static void twoTriangles() {
        RodBench x = pins(5);
        rods(x, new int[][] {{0, 1}, {1, 2}, {0, 2}, {2, 3}, {3, 4}, {2, 4}});
        bodies("two triangles", x, new int[][] {{0, 1, 2}, {2, 3, 4}});
        Due.is("two triangles: could()", 0, x.could());
        Due.is("two triangles: count(8)", 0, x.count(8));
        rods(x, new int[][] {{0, 4}});
        bodies("two triangles and a rod", x, new int[][] {{0, 1, 2, 3, 4}});
        Due.is("two triangles and a rod: could()", 1, x.could());
        rods(x, new int[][] {{1, 3}});
        bodies("two triangles and two rods", x, new int[][] {{0, 1, 2, 3, 4}});
        Due.is("two triangles and two rods: count(8)", 1, x.count(8));
        Due.is("two triangles and two rods: could()", 1, x.could());
    }

    private static void bodiesAreAsGreatAsCanBe() {
        RodBench x = pins(6);
        rods(x, new int[][] {{5, 4}, {4, 3}, {3, 5}, {2, 3}, {2, 4}, {0, 1}, {1, 2}});
        bodies("a kite and two rods", x, new int[][] {{0, 1}, {1, 2}, {2, 3, 4, 5}});
        Due.is("two pins of the kite without a rod: count(2)", 7, x.count(2));
        x.rod(3, 2, 5, 9);
        Due.is("a spare inside the kite: rodTold(7, 6)", 2, x.rodTold(7, 6));
        x.rod(3, 0, 5, 9);
        Due.is("a spare across bodies: rodTold(8, 6)", -1, x.rodTold(8, 6));
    }

    private static void bodiesAreNumberedByTheirPins() {
        RodBench x = pins(6);
        rods(x, new int[][] {{4, 5}, {3, 5}, {0, 5}, {2, 1}, {0, 3}, {0, 2}});
        bodies("a triangle, rods", x, new int[][] {{0, 2}, {0, 3, 5}, {1, 2}, {4, 5}});
        Due.is("the triangle: rodTold(1, 6)", 1, x.rodTold(1, 6));
        Due.is("4-5: rodTold(0, 6)", 3, x.rodTold(0, 6));
        Due.is("0-2: rodTold(5, 6)", 0, x.rodTold(5, 6));
        Due.is("pins that no rod joins, count(4)", 6, x.count(4));
    }

    /** K(3,3): nine rods, six pins, no triangle; stiff by counts as a whole. */
    private static void sixWithThreeLegs() {
        RodBench x = pins(6);
        int[][] ends = {{0, 1}, {0, 3}, {0, 5}, {2, 1}, {2, 3}, {2, 5}, {4, 1}, {4, 3}};
        rods(x, ends);
        bodies("one less", x, new int[][] {{0, 1}, {0, 3}, {0, 5}, {1, 2}, {1, 4}, {2, 3}, {2, 5}, {3, 4}});
        Due.is("one less: could()", 0, x.could());
        rods(x, new int[][] {{4, 5}});
        bodies("three to three", x, new int[][] {{0, 1, 2, 3, 4, 5}});
        Due.is("three to three: could()", 1, x.could());
        Due.is("three to three: count(8)", 0, x.count(8));
    }

    /** Nine rods, but six of them between four pins: one too many there and one too few in all. */
    private static void surplusOfAPart() {
        RodBench x = pins(6);
        rods(x, new int[][] {{0, 1}, {0, 2}, {0, 3}, {1, 2}, {1, 3}, {2, 3}, {3, 4}, {4, 5}, {5, 2}});
        Due.is("count(3)", 9, x.count(3));
        Due.is("count(8)", 1, x.count(8));
        Due.is("could()", 0, x.could());
        bodies("a full four", x, new int[][] {{0, 1, 2, 3}, {2, 5}, {3, 4}, {4, 5}});
        rods(x, new int[][] {{0, 4}});
        bodies("a full four with a fifth and a sixth", x, new int[][] {{0, 1, 2, 3, 4, 5}});
        Due.is("all could: could()", 1, x.could());
        Due.is("all could: count(8)", 1, x.count(8));
    }

    private static void heldPinsAndPlacesDoNotMatter() {
        RodBench x = new RodBench();
        for (int i = 0; i < 3; i++) {
            x.pin(i, 0);
        }
        rods(x, new int[][] {{0, 1}, {1, 2}, {0, 2}});
        Due.is("on a line: could()", 1, x.could());
        Due.is("on a line: stiff()", 0, x.stiff());
        Due.is("on a line: count(8)", 0, x.count(8));
        for (int i = 0; i < 3; i++) {
            x.hold(i, true);
        }
        Due.is("all held: could()", 1, x.could());
        Due.is("all held: count(8)", 0, x.count(8));
        bodies("all held", x, new int[][] {{0, 1, 2}});
        x = pins(2);
        x.hold(0, true);
        x.hold(1, true);
        Due.is("two held: stiff()", 1, x.stiff());
        Due.is("two held: could()", 0, x.could());
    }

    private static void outRodsDoNotCount() {
        RodBench x = pins(3);
        rods(x, new int[][] {{0, 1}, {1, 2}});
        x.rod(3, 2, 0, 1);
        Due.is("out: could()", 0, x.could());
        bodies("out", x, new int[][] {{0, 1}, {1, 2}});
        x.put(2, true);
        Due.is("in: could()", 1, x.could());
        bodies("in", x, new int[][] {{0, 1, 2}});
        x.put(2, false);
        bodies("out again", x, new int[][] {{0, 1}, {1, 2}});
        x.pin(1, 1);
        Due.is("a pin more: could()", 0, x.could());
    }

    private static void refused() {
        RodBench x = pins(3);
        rods(x, new int[][] {{0, 1}});
        Due.is("body(-1, 0)", -2, x.body(-1, 0));
        Due.is("body(1, 0)", -2, x.body(1, 0));
        Due.is("body(1, -1): BAD first", -2, x.body(1, -1));
        Due.is("body(0, -1)", -1, x.body(0, -1));
        Due.is("body(0, 2)", -1, x.body(0, 2));
        Due.is("body(0, MAX)", -1, x.body(0, Integer.MAX_VALUE));
        Due.is("body(0, MIN)", -1, x.body(0, Integer.MIN_VALUE));
        Due.is("body(MAX, 0)", -2, x.body(Integer.MAX_VALUE, 0));
    }
}
