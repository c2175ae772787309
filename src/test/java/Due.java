/** What the project's tests share: calls whose answer isn't the one that is due are printed and counted. */
final class Due {
  static final int BEYOND = -1000001;
  static final int FULL = -1000002;
  static final int KIND = -1000003;
  static final int NONE = -1000004;
  static final int STATE = -1000005;
  static final int MISSING = -1000006;
  static final int SIZE = -1000007;

  private static int asked = 0;
  private static int wrong = 0;
  private static int draws = 20261118;
  private static String sentence = "";
  private static int sentences = 0;

  private Due() {
  }

  /** What is asked from here on stands for a sentence of the document. */
  static void sentence(String words) {
    sentence = words;
    sentences++;
  }

  static void due(String call, long got, long want) {
    asked++;
    if (got != want) {
      wrong++;
      if (wrong <= 40) {
        System.out.println((sentence.isEmpty() ? "" : "[" + sentence + "] ") + call + " answered " + got + ", due is " + want);
      }
    }
  }

  static void end(String test) {
    System.out.println(test + ": " + (sentences == 0 ? "" : sentences + " sentences, ") + asked + " answers, " + wrong
        + " not as due");
    if (wrong != 0) {
      System.exit(1);
    }
  }

  /** A number from 0 on below a bound; the same ones in each run. */
  static int draw(int bound) {
    draws = draws * 1664525 + 1013904223;
    return (draws >>> 8) % bound;
  }

  /** Feeds a text byte by byte. */
  static void feed(HeirHalves x, String text) {
    for (int i = 0; i < text.length(); i++) {
      x.feed(text.charAt(i), 1);
    }
  }

  static int tell(HeirHalves x, String text) {
    feed(x, text);
    return x.text();
  }

  static HeirHalves estate(String... texts) {
    HeirHalves x = new HeirHalves();
    for (String text : texts) {
      if (tell(x, text) < 0) {
        wrong++;
        System.out.println("no TEXT: " + text);
      }
    }
    return x;
  }
}
