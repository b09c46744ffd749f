/** All tests of the boundaries in one go; the first that is not as due ends it with exit code 1. */
public final class AllBoundaries {
  private AllBoundaries() { }

  public static void main(String[] args) {
    TextBoundariesTest.main(args);
    RunBoundariesTest.main(args);
    TraceBoundariesTest.main(args);
    FastBoundariesTest.main(args);
  }
}
