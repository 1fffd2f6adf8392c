/** The calls that README.md shows, in their order, with the answers that it tells. */
public final class ReadmeTest {
    private ReadmeTest() { }

    public static void main(String[] args) {
        FrostBox x = new FrostBox();
        Check.due("feed kp9b", x.feed(0x6b703962, 0, 0, 0, 0), 4);
        Check.due("fault(0)", x.fault(0), 3);
        Check.due("end(0)", x.end(0), true);
        Check.due("feed kp9;bn2", x.feed(0x6b70393b, 0x626e3200, 0, 0, 0), 7);
        Check.due("text(0)", x.text(0), 1);
        Check.due("put(0, 3, true)", x.put(0, 3, true), 2);
        Check.due("box(0, 4)", Check.box(x, 0, 4), 27);
        Check.due("eat(1)", x.eat(1), 45);
        Check.due("feed y:a*2", x.feed(0x793a612a, 0x32000000, 0, 0, 0), 5);
        Check.due("text(1)", x.text(1), 0);
        Check.due("law(0)", x.law(0), true);
        Check.due("eat(1) by the law", x.eat(1), 41);
        Check.due("eat(0)", x.eat(0), 1);
        Check.due("feed m2;t0", x.feed(0x6d323b74, 0x30000000, 0, 0, 0), 5);
        Check.due("text(2)", x.text(2), 0);
        Check.due("run(0, 1)", x.run(0, 1), 15);
        Check.due("perform(0)", x.perform(0), 2);
        Check.due("log(0, 3)", x.log(0, 3), 15);
        Check.due("count(14)", x.count(14), 4);
        Check.due("undo()", x.undo(), 3);
        Check.due("count(1)", x.count(1), 2);
        Check.due("take(5)", x.take(5), FrostBox.NONE);
        Check.due("box(5, 0)", Check.box(x, 5, 0), Check.THROWN);
        Check.finish("ReadmeTest");
    }
}
