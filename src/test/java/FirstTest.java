public final class FirstTest { public static void main(String[] a) { if (new SleepSteps().runs(0) != 1) System.exit(1); } }
