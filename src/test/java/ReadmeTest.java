import java.io.IOException;
import java.lang.reflect.Method;
import java.lang.reflect.Modifier;
import java.nio.file.Files;
import java.nio.file.Path;

/** README.md: its example answers as it says, and it leaves no call out. */
public final class ReadmeTest {
    private static final Due DUE = new Due("ReadmeTest");

    private static void example() {
        SaidBack x = new SaidBack();
        x.feed(0x70656f70, 0x6c652033, 0x3b746965, 0x20302031, 0x20312035);
        x.feed(0x3b000000, 0, 0, 0, 0);
        x.end(21);
        int village = x.text(0, SaidBack.NONE);
        x.feed(0x776f7264, 0x20302030, 0x3b000000, 0, 0);
        x.end(9);
        int telling = x.text(1, SaidBack.NONE);
        int holders = x.holders(village, telling, 1, false);
        DUE.is("the village", village, 0);
        DUE.is("the telling", telling, 0);
        DUE.is("the holders", holders, 3);
        DUE.is("people", x.village(village, 0), 3);
        DUE.is("the tie's strength", x.tie(village, 0, 3), 5);
        DUE.is("the act's sort", x.act(telling, 0, 0), 0);
    }

    /** The lines of the example are the ones above: what stands in README.md is what was tried. */
    private static void exampleIsTheSame() throws IOException {
        String readme = Files.readString(Path.of("README.md"));
        String here = Files.readString(Path.of("src/test/java/ReadmeTest.java"));
        int lines = 0;
        String example = readme.substring(readme.indexOf("```java") + 7);
        for (String line : example.substring(0, example.indexOf("```")).split("\n")) {
            String code = line.replaceAll("//.*", "").trim();
            if (!code.isEmpty()) {
                lines++;
                DUE.is("README.md: " + code, here.contains("        " + code + "\n"), true);
            }
        }
        DUE.is("README.md: lines", lines, 9);
    }

    private static void noCallIsLeftOut() throws IOException {
        String readme = Files.readString(Path.of("README.md"));
        for (Method method : SaidBack.class.getDeclaredMethods()) {
            if (Modifier.isPublic(method.getModifiers())) {
                DUE.is("README.md: " + method.getName(), readme.contains("`" + method.getName() + "`"), true);
            }
        }
    }

    public static void main(String[] args) throws IOException {
        example();
        exampleIsTheSame();
        noCallIsLeftOut();
        DUE.end();
    }
}
