final class FirstTest { public static void main(String[] a) { Due d = new Due(); d.due("NONE", SluiceLogs.NONE, -1); d.end(); } }
