/** That .ci/run runs every test of the project and every one under ../shared/tests, and fails if one fails. */
public final class RunTest {
    private static final Due CHECK = new Due();
    private static final String SOURCE = "src/main/java/KernelText.java";

    public static void main(String[] args) throws Exception {
        Checkout small = new Checkout();
        small.copy(".ci/run");
        small.write(SOURCE, "public final class KernelText { }");
        small.write("src/test/java/Help.java", "final class Help { static final int CODE = 0; }");
        own(small, "Good", "Help.CODE");
        given(small, "Fine", "0");

        CHECK.sentence("Run every test of the project, and every test under ../shared/tests");
        CHECK.due("all good", small.run(".ci/run"), 0);
        CHECK.due("one of the project", small.printed().contains("run GoodTest\n"), true);
        CHECK.due("one that is given", small.printed().contains("run Fine\n"), true);
        CHECK.due("from elsewhere", small.run("cd src && ../.ci/run"), 0);

        CHECK.sentence("and fail if one fails");
        own(small, "Bad", "1");
        fails(small, "a test of the project");
        CHECK.due("the others are run still", small.printed().contains("run Fine\n"), true);
        small.delete("src/test/java/BadTest.java");
        given(small, "Worse", "1");
        fails(small, "one that is given");
        given(small, "Worse", "no code");
        fails(small, "one that does not compile");
        given(small, "Worse", "0");
        CHECK.due("all good again", small.run(".ci/run"), 0);

        CHECK.sentence("and fail if there is none");
        small.delete("src/test/java/GoodTest.java");
        fails(small, "none of the project");
        own(small, "Good", "0");
        small.delete("../shared/tests/Fine.java");
        small.delete("../shared/tests/Worse.java");
        fails(small, "none that is given");
        small.remove();
        CHECK.end();
    }

    private static void own(Checkout small, String name, String code) throws Exception {
        small.write("src/test/java/" + name + "Test.java", program(name + "Test", code));
    }

    private static void given(Checkout small, String name, String code) throws Exception {
        small.write("../shared/tests/" + name + ".java", program(name, code));
    }

    private static String program(String name, String code) {
        return "public final class " + name + " { public static void main(String[] args) { new KernelText();"
            + " System.out.println(\"run " + name + "\"); System.exit(" + code + "); } }";
    }

    private static void fails(Checkout small, String what) throws Exception {
        CHECK.due(what, small.run(".ci/run") != 0, true);
    }
}
