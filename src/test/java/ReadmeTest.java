import java.io.IOException;
import java.lang.reflect.Method;
import java.lang.reflect.Modifier;
import java.nio.file.Files;
import java.nio.file.Path;
import java.util.List;

/** README.md's example stands here, line by line, and answers what is said of it there. */
final class ReadmeTest {
  public static void main(String[] args) throws IOException {
    example();
    String readme = Files.readString(Path.of("README.md"));
    String start = "```java\n";
    int from = readme.indexOf(start) + start.length();
    standsHere(readme.substring(from, readme.indexOf("```", from)).split("\n"));
    for (Method method : RouteSpeaker.class.getDeclaredMethods()) {
      if (Modifier.isPublic(method.getModifiers())) {
        Checks.same(method.getName() + " is told of", readme.contains("`" + method.getName() + "("), true);
      }
    }
    Checks.finish();
  }

  private static void standsHere(String[] lines) throws IOException {
    List<String> here = Files.readAllLines(Path.of("src/test/java/ReadmeTest.java"));
    int at = 0;
    for (String line : lines) {
      String code = line.replaceAll("//.*", "").strip();
      while (!code.isEmpty() && at < here.size() && !here.get(at).strip().equals(code)) {
        at++;
      }
      Checks.same("'" + code + "' stands here, behind the line before it", at < here.size(), true);
    }
  }

  private static void example() {
    RouteSpeaker speaker = new RouteSpeaker();
    speaker.peer(0, 0, 200);
    speaker.peer(1, 1, 0);
    speaker.rule(0, 4, 160, 150);
    speaker.start(0);
    Checks.row("OPEN is sent", Checks.sent(speaker, 0), 0x06, 0x01, 0x04, 0x64, 0x09, 0x07);
    speaker.feed(0, 0x060104C80914L, 6);
    Checks.row("hold time and ID", Checks.ints(speaker.session(0, 3), speaker.session(0, 4)), 9, 20);
    speaker.feed(0, 0x0204L, 2);
    Checks.same("the session is up", speaker.session(0, 0), 3);
    speaker.start(1);
    speaker.feed(1, 0x06010464091EL, 6);
    Checks.same("ID", speaker.session(1, 4), 30);
    speaker.feed(1, 0x0204L, 2);
    speaker.feed(0, 0x0F02000901010002L, 8);
    speaker.feed(0, 0x01C803013204A0L, 7);
    int peer = speaker.forward(165);
    Checks.same("the peer", peer, 0);
    int preference = speaker.best(4, 160, 1);
    Checks.same("the preference", preference, 150);
    Checks.row("ORIGIN, PATH, NEXT", Checks.ints(speaker.best(4, 160, 2), speaker.best(4, 160, 3),
        speaker.best(4, 160, 8), speaker.best(4, 160, 4)), 0, 1, 200, 50);
    int count = speaker.session(1, 5);
    Checks.same("how many bytes", count, 26);
    int[] taken = {};
    while (speaker.session(1, 5) > 0) {
      int next = speaker.take(1);
      taken = Checks.join(taken, Checks.ints(next));
    }
    Checks.row("what they are", taken, Checks.join(Checks.ints(6, 1, 4, 100, 9, 7, 2, 4),
        Checks.told(Checks.inner(0, Checks.path(200), 50, 150), 4, 160)));
    int up = speaker.tick();
    Checks.same("how many are up", up, 2);
  }
}
