import java.io.IOException;
import java.nio.file.Files;
import java.nio.file.Path;

/** The calls that README.md shows answer what it says, and they stand there as they stand here. */
public final class ReadmeTest {
    public static void main(String[] args) throws IOException {
        calls();
        sameLines();
        Check.finish();
    }

    static void calls() {
        LouvreCraft craft = new LouvreCraft();
        int panel = craft.addNode(2000, 15000, 800, 100, 0);
        int box = craft.addNode(5000, 20000, 0, 0, 4000);
        craft.link(panel, box, 900);
        craft.addLouvre(panel, 600, 10000, 30000, 50);
        int heater = craft.addHeater(box, 4000, 12000, 15000, 3);
        craft.setOrbit(5400, 1800, 3900, 1361, 30, 240);
        craft.setPower(30000, 9000, 50000000, 40000000);
        craft.setLimits(box, 19000, 40000);

        int violated = craft.run(300);
        int temperature = craft.temperature(box);
        int left = craft.stepsToViolation(box, 2000);
        int none = craft.leastHeaterPower(heater, 200);
        craft.setMode(heater, 1);
        int power = craft.leastHeaterPower(heater, 200);
        Check.due("violated", 0, violated);
        Check.due("temperature", 19674, temperature);
        Check.due("left", 93, left);
        Check.due("none", LouvreCraft.NONE, none);
        Check.due("power", 1000, power);

        String rules = "when temp 1 < 18000 or open 0 > 900: heater 0 on; load 0 = 100 + used / 2;";
        for (int i = 0; i < rules.length(); i += 4) {
            int fourBytes = 0;
            for (int k = i; k < i + 4; k++) {
                fourBytes = fourBytes << 8 | (k < rules.length() ? rules.charAt(k) : ' ');
            }
            craft.appendText(fourBytes);
        }
        int count = craft.loadRules();
        Check.due("count", 2, count);
    }

    static void sameLines() throws IOException {
        String here = Files.readString(Path.of("src/test/java/ReadmeTest.java"));
        boolean isCode = false;
        for (String line : Files.readAllLines(Path.of("README.md"))) {
            if (line.startsWith("```")) {
                isCode = line.equals("```java");
            } else if (isCode) {
                String code = line.replaceAll(" *//.*", "").trim();
                Check.due("the line " + code + " is here", true, here.contains(code));
            }
        }
    }
}
