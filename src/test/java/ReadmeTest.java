import java.io.IOException;
import java.nio.file.Files;
import java.nio.file.Path;
import java.util.List;
import java.util.regex.Matcher;
import java.util.regex.Pattern;

/** The calls that README.md shows, in its order: each answers what README.md says behind it. */
public final class ReadmeTest {
    private static List<String> lines;
    private static int line;
    private static int calls;

    public static void main(String[] args) throws IOException {
        lines = Files.readAllLines(Path.of("README.md"));
        BoatsCalledIn lake = new BoatsCalledIn();
        says("boat(0, 300, 30000)", lake.boat(0, 300, 30000));
        says("boat(2, 1702, 60000)", lake.boat(2, 1702, 60000));
        says("time(30)", lake.time(30));
        says("call(0)", lake.call(0));
        says("told(0, 6)", lake.told(0, 6));
        says("nobody()", lake.nobody());
        says("fetch(2, 0)", lake.fetch(2, 0));
        says("launch(2)", lake.launch(2));
        says("count(3)", lake.count(3));
        says("count(5)", lake.count(5));
        says("call(0)", lake.call(0));
        String text = "price 6; hears not hid or far < 4; comes 0 < late + 10;";
        due("the text", lines.contains("String text = \"" + text + "\";"));
        for (int i = 0; i < text.length(); i++) {
            lake.feed(text.charAt(i));
        }
        says("text()", lake.text());
        says("force(1)", lake.force(1));
        says("sheet(0, 2, 3)", lake.sheet(0, 2, 3));
        says("cell(0, 0, 1)", lake.cell(0, 0, 1));
        says("cell(0, 1, 905)", lake.cell(0, 1, 905));
        says("cell(0, 2, 45000)", lake.cell(0, 2, 45000));
        says("boats(0, 2, 0, 1)", lake.boats(0, 2, 0, 1));
        says("taken(2, 0)", lake.taken(2, 0));
        says("taken(2, 2)", lake.taken(2, 2));
        says("image()", lake.image());
        says("time(60)", lake.time(60));
        says("back()", lake.back());
        says("count(4)", lake.count(4));
        allWereCalled();
        Check.end();
    }

    private static void due(String what, boolean holds) {
        Check.due("README.md has " + what, holds ? 1 : 0, 1);
    }

    /** The next line of README.md with this call says this number. */
    private static void says(String call, long got) {
        Matcher said = Pattern.compile("^lake\\." + Pattern.quote(call) + "; +// (-?\\d+)\\b.*").matcher("");
        while (line < lines.size() && !said.reset(lines.get(line)).matches()) {
            line++;
        }
        line++;
        calls++;
        due("lake." + call + " in its place", line <= lines.size());
        if (line <= lines.size()) {
            Check.due("lake." + call, got, Long.parseLong(said.group(1)));
        }
    }

    private static void allWereCalled() {
        long shown = lines.stream().filter(l -> l.matches("lake\\..*// -?\\d.*")).count();
        Check.due("how many calls README.md shows", shown, calls);
    }
}
