import java.util.Random;

/** Random texts. */
final class Texts {
  private static final String[] NAMES = {"x", "y", "z", "loop", "out", "abcdefgh", "bl", "gg"};

  private Texts() { }

  static String program(Random random) {
    StringBuilder text = new StringBuilder();
    String[] kinds = {"sums", "hard", "cells", "jumps"};
    for (String kind : kinds) {
      if (random.nextInt(2) == 0) {
        text.append("units ").append(kind).append(' ').append(1 + random.nextInt(4)).append(' ')
            .append(1 + random.nextInt(6)).append(';');
      }
    }
    int blocks = 1 + random.nextInt(8);
    int most = 1 + random.nextInt(6);
    boolean onward = random.nextInt(2) == 0;
    for (int b = 0; b < blocks; b++) {
      text.append("block ").append(NAMES[b]).append(';');
      int lines = random.nextInt(most + 1);
      for (int i = 0; i < lines; i++) {
        line(text, random);
      }
      if (onward) {
        endOnward(text, random, b, blocks);
      } else {
        end(text, random, blocks);
      }
    }
    return text.toString();
  }

  private static void line(StringBuilder text, Random random) {
    switch (random.nextInt(9)) {
      case 0: case 1:
        text.append(reg(random)).append("=at ").append(cell(random)).append(';');
        break;
      case 2:
        text.append("at ").append(cell(random)).append('=').append(value(random)).append(';');
        break;
      default:
        text.append(reg(random)).append('=').append(value(random)).append("+-*/++-".charAt(random.nextInt(7)))
            .append(value(random)).append(';');
    }
  }

  private static void end(StringBuilder text, Random random, int blocks) {
    int sort = random.nextInt(10);
    if (sort == 0) {
      text.append("stop;");
    } else if (sort < 3) {
      text.append("goto ").append(NAMES[random.nextInt(blocks)]).append(';');
    } else {
      text.append("if ").append(reg(random)).append('<').append(value(random)).append(" goto ")
          .append(NAMES[random.nextInt(blocks)]).append(" else ").append(NAMES[random.nextInt(blocks)]).append(';');
    }
  }

  /** Ways that lead on, to the next block most often, so that traces grow long and runs stop. */
  private static void endOnward(StringBuilder text, Random random, int here, int blocks) {
    if (here == blocks - 1) {
      text.append("stop;");
      return;
    }
    String next = NAMES[here + 1];
    String other = NAMES[random.nextInt(5) == 0 ? random.nextInt(blocks) : here + 1 + random.nextInt(blocks - here - 1)];
    boolean turned = random.nextInt(3) == 0;
    if (random.nextInt(6) == 0) {
      text.append("goto ").append(next).append(';');
    } else {
      text.append("if ").append(reg(random)).append('<').append(value(random)).append(" goto ")
          .append(turned ? other : next).append(" else ").append(turned ? next : other).append(';');
    }
  }

  private static String reg(Random random) {
    return "abcdef".substring(random.nextInt(6)).substring(0, 1);
  }

  private static String value(Random random) {
    return random.nextInt(2) == 0 ? reg(random) : String.valueOf(random.nextInt(8));
  }

  private static String cell(Random random) {
    return random.nextInt(2) == 0 ? reg(random) : String.valueOf(random.nextInt(9));
  }

  /** A byte gone, a byte more, or another byte. */
  static String spoiled(String text, Random random) {
    StringBuilder spoiled = new StringBuilder(text);
    int at = random.nextInt(text.length() + 1);
    String signs = ";=+-*/<09azbB \n\t\r\u00e9\0";
    char sign = signs.charAt(random.nextInt(signs.length()));
    if (random.nextInt(3) == 0 || at == text.length()) {
      spoiled.insert(at, sign);
    } else if (random.nextInt(2) == 0) {
      spoiled.setCharAt(at, sign);
    } else {
      spoiled.deleteCharAt(at);
    }
    return spoiled.toString();
  }
}
