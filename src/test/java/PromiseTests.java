public final class PromiseTests {
    public static void main(String[] args) {
        HeapSuite x = new HeapSuite();
        if (x.size(0) != 0) {
            System.out.println("size(0) of a new object is not 0");
            System.exit(1);
        }
    }
}
