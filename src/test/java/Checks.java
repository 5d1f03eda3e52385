import java.util.Objects;

/** Counts the answers that are not as due, tells each, and ends the program with 1 if there was one. */
final class Checks {
  private int wrong = 0;
  private int made = 0;
  private String about = "";

  void about(String text) {
    about = text;
  }

  void due(String call, Object got, Object want) {
    made++;
    if (!Objects.equals(got, want)) {
      wrong++;
      System.out.println(about + ": " + call + " answered " + got + ", due is " + want);
    }
  }

  int wrong() {
    return wrong;
  }

  void end() {
    System.out.println(wrong == 0 ? made + " answers are as due" : wrong + " answers are not as due");
    if (wrong != 0) System.exit(1);
  }
}
