import java.lang.management.ManagementFactory;

/** After it has been made, an object makes nothing: all rows are made once and used again. */
public final class RoomTest {
    private static final int ROUNDS = 40;

    public static void main(String[] args) {
        Due due = new Due();
        com.sun.management.ThreadMXBean bean =
            (com.sun.management.ThreadMXBean) ManagementFactory.getThreadMXBean();
        // What the machine itself makes at a method's first use is not counted.
        calls(new FallingRules());
        FallingRules x = new FallingRules();
        long before = bean.getCurrentThreadAllocatedBytes();
        calls(x);
        long made = bean.getCurrentThreadAllocatedBytes() - before;
        due.holds("bytes made by calls: " + made, made < 2000);
        due.end();
    }

    private static void calls(FallingRules x) {
        for (int n = 0; n < ROUNDS; n++) {
            types(x, n % 2 == 0 ? "g(a,y)>y;g(f(x),y)>f(g(x,y));" : "f(x)>g(x,x);");
            x.reads();
            types(x, "g(f(f(a)),g(a,f(b)))");
            x.term();
            x.digest();
            x.turns(3);
            x.shown(0, 3);
            x.lighter(0);
            x.first(1);
            x.digest();
            x.drops(0);
            x.back();
            x.told(9);
        }
    }

    private static void types(FallingRules x, String text) {
        x.clear();
        for (int i = 0; i < text.length(); i++) {
            x.type(text.charAt(i));
        }
    }
}
