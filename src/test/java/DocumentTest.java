import java.io.IOException;
import java.lang.reflect.Field;
import java.lang.reflect.Method;
import java.lang.reflect.Modifier;
import java.nio.file.Files;
import java.nio.file.Path;
import java.util.TreeSet;

/** The whole document in its own order: every piece of it is quoted in its place, and answers as it asks. */
public final class DocumentTest extends Edges {
    private static final Due due = new Due("DocumentTest");

    public static void main(String[] args) throws IOException {
        Reading doc = new Reading(due);
        whatItIs(doc);
        face(doc);
        new TermsRead(doc, due).read();
        new PromisesRead(doc, due).read();
        notPromised(doc);
        due.end();
        doc.end();
    }

    private static void whatItIs(Reading doc) {
        doc.passes("# SummerWall ## What it is");
        doc.passes("A wall by the first of summer: a stranger will build a wall round a city in one winter, for more than it can bear, since it cannot be done;");
        doc.passes("builders of kinds by how they haul, in what weather, hindrances within oaths and beyond them, days fair, of frost, of thaw;");
        doc.passes("day by day, by draws, undone; how likely he will, from what is laid; on which day it could first be seen, by how much pace he would;");
        doc.passes("the fewest hindrances without a broken oath by which he will not, on which day one is best; how soon by fair days, by frost;");
        doc.passes("what is laid in the mean; what weather there was, by what was laid; bargains as texts; images; sheets that may be missing.");
        doc.asks("An object is used for at most 512 calls after it has been made; what later calls answer is free.");
        SummerWall x = new SummerWall();
        due.is("call 1", x.builder(0, 3, 0), 0);
        for (int call = 2; call <= 510; call += 2) {
            due.is("call " + call, x.day(FAIR), 3);
            due.is("call " + (call + 1), x.undo(), 0);
        }
        due.is("call 512", x.count(7), 0);
    }

    private static void face(Reading doc) throws IOException {
        doc.passes("## The public face ```java");
        String face = doc.upTo("```");
        doc.passes("```");
        String text = Files.readString(Path.of("src/main/java/SummerWall.java"));
        TreeSet<String> told = new TreeSet<>();
        for (String line : face.trim().split("(?<=[;{}]) ")) {
            String plain = line.replace(";", "");
            if (line.startsWith("public int ")) {
                due.that("as it stands in the document: " + plain, text.contains("    " + plain + " {\n"));
                told.add(plain.substring("public int ".length(), plain.indexOf('(')));
            } else if (!line.equals("}")) {
                due.that("as it stands in the document: " + line, text.contains(line) || text.contains(plain + " {\n"));
            }
        }
        TreeSet<String> open = new TreeSet<>();
        for (Method m : SummerWall.class.getDeclaredMethods()) {
            if (!Modifier.isPrivate(m.getModifiers())) {
                open.add(m.getName());
            }
        }
        due.that("no method of the face is missing, none is too many: " + open, told.isEmpty() || open.equals(told));
        for (Field f : SummerWall.class.getDeclaredFields()) {
            due.that(f + " is in the document or is private", Modifier.isPrivate(f.getModifiers()) || told.isEmpty() || face.contains(f.getName() + " = -"));
        }
    }

    private static void notPromised(Reading doc) {
        doc.passes("## Not promised How the state is held inside the object is free, as are the speed of each call,");
        doc.passes("the text of toString and the behaviour of equals and hashCode. Use of one object from several threads at once is not promised to be safe.");
        doc.passes("Nothing is promised beyond the answers and state changes described above, and nothing about an object after its 512th call.");
    }
}
