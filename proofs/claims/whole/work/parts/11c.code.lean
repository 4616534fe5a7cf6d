/-- SluiceLogsModel.<init>()V -/
def bk_154 : Nat → List Ins := fun t => match t with
  | 0 => [(.aload_n 0, 0, 0, 0, 0), (.invokespecial 7, 0, 4, 0, 0), (.aload_n 0, 0, 0, 0, 0), (.sipush 2000, 0, 0, 0, 0), (.newarray .byte, 56, 0, 0, 0), (.putfield 13, 9, 1, 2, 0), (.aload_n 0, 0, 0, 0, 0), (.sipush 2000, 0, 0, 0, 0), (.newarray .byte, 57, 0, 0, 0), (.putfield 17, 9, 3, 2, 0), (.aload_n 0, 0, 0, 0, 0), (.sipush 403, 0, 0, 0, 0), (.newarray .int, 58, 0, 0, 0), (.putfield 20, 9, 5, 2, 0), (.aload_n 0, 0, 0, 0, 0), (.sipush 403, 0, 0, 0, 0), (.newarray .int, 59, 0, 0, 0), (.putfield 24, 9, 6, 2, 0), (.aload_n 0, 0, 0, 0, 0), (.sipush 403, 0, 0, 0, 0), (.newarray .int, 60, 0, 0, 0), (.putfield 27, 9, 7, 2, 0), (.aload_n 0, 0, 0, 0, 0), (.sipush 403, 0, 0, 0, 0), (.newarray .long, 61, 0, 0, 0), (.putfield 30, 9, 8, 2, 0), (.aload_n 0, 0, 0, 0, 0), (.bipush 23, 0, 0, 0, 0), (.newarray .long, 62, 0, 0, 0), (.putfield 34, 9, 9, 2, 0)]
  | 66 => [(.aload_n 0, 0, 0, 0, 0), (.iconst (-1), 0, 0, 0, 0), (.putfield 37, 9, 17, 0, 0), (.aload_n 0, 0, 0, 0, 0), (.bipush 10, 0, 0, 0, 0), (.newarray .long, 63, 0, 0, 0), (.putfield 40, 9, 21, 2, 0), (.aload_n 0, 0, 0, 0, 0), (.bipush 10, 0, 0, 0, 0), (.newarray .int, 64, 0, 0, 0), (.putfield 43, 9, 22, 2, 0), (.aload_n 0, 0, 0, 0, 0), (.iconst 2, 0, 0, 0, 0), (.newarray .int, 65, 0, 0, 0), (.putfield 46, 9, 23, 2, 0), (.aload_n 0, 0, 0, 0, 0), (.iconst 2, 0, 0, 0, 0), (.newarray .int, 66, 0, 0, 0), (.putfield 49, 9, 24, 2, 0), (.aload_n 0, 0, 0, 0, 0), (.bipush 12, 0, 0, 0, 0), (.newarray .int, 67, 0, 0, 0), (.putfield 52, 9, 25, 2, 0), (.aload_n 0, 0, 0, 0, 0), (.bipush 12, 0, 0, 0, 0), (.newarray .int, 68, 0, 0, 0), (.putfield 55, 9, 26, 2, 0), (.aload_n 0, 0, 0, 0, 0), (.bipush 12, 0, 0, 0, 0), (.newarray .int, 69, 0, 0, 0)]
  | 122 => [(.putfield 58, 9, 27, 2, 0), (.aload_n 0, 0, 0, 0, 0), (.iconst 2, 0, 0, 0, 0), (.newarray .int, 70, 0, 0, 0), (.putfield 61, 9, 28, 2, 0), (.aload_n 0, 0, 0, 0, 0), (.bipush 24, 0, 0, 0, 0), (.newarray .int, 71, 0, 0, 0), (.putfield 64, 9, 29, 2, 0), (.aload_n 0, 0, 0, 0, 0), (.bipush 24, 0, 0, 0, 0), (.newarray .int, 72, 0, 0, 0), (.putfield 67, 9, 30, 2, 0), (.aload_n 0, 0, 0, 0, 0), (.bipush 24, 0, 0, 0, 0), (.newarray .int, 73, 0, 0, 0), (.putfield 70, 9, 31, 2, 0), (.aload_n 0, 0, 0, 0, 0), (.iconst 2, 0, 0, 0, 0), (.newarray .int, 74, 0, 0, 0), (.putfield 73, 9, 32, 2, 0), (.aload_n 0, 0, 0, 0, 0), (.iconst 2, 0, 0, 0, 0), (.newarray .int, 75, 0, 0, 0), (.putfield 76, 9, 33, 2, 0), (.aload_n 0, 0, 0, 0, 0), (.bipush 8, 0, 0, 0, 0), (.newarray .int, 76, 0, 0, 0), (.putfield 79, 9, 34, 2, 0), (.aload_n 0, 0, 0, 0, 0)]
  | 179 => [(.bipush 8, 0, 0, 0, 0), (.newarray .int, 77, 0, 0, 0), (.putfield 82, 9, 35, 2, 0), (.aload_n 0, 0, 0, 0, 0), (.sipush 260, 0, 0, 0, 0), (.newarray .boolean, 78, 0, 0, 0), (.putfield 85, 9, 37, 2, 0), (.aload_n 0, 0, 0, 0, 0), (.sipush 260, 0, 0, 0, 0), (.newarray .int, 79, 0, 0, 0), (.putfield 89, 9, 38, 2, 0), (.aload_n 0, 0, 0, 0, 0), (.sipush 260, 0, 0, 0, 0), (.newarray .int, 80, 0, 0, 0), (.putfield 92, 9, 39, 2, 0), (.aload_n 0, 0, 0, 0, 0), (.sipush 260, 0, 0, 0, 0), (.newarray .int, 81, 0, 0, 0), (.putfield 95, 9, 40, 2, 0), (.aload_n 0, 0, 0, 0, 0), (.sipush 260, 0, 0, 0, 0), (.newarray .int, 82, 0, 0, 0), (.putfield 98, 9, 41, 2, 0), (.aload_n 0, 0, 0, 0, 0), (.sipush 840, 0, 0, 0, 0), (.newarray .int, 83, 0, 0, 0), (.putfield 101, 9, 43, 2, 0), (.aload_n 0, 0, 0, 0, 0), (.sipush 840, 0, 0, 0, 0), (.newarray .int, 84, 0, 0, 0)]
  | 246 => [(.putfield 104, 9, 44, 2, 0), (.aload_n 0, 0, 0, 0, 0), (.bipush 64, 0, 0, 0, 0), (.newarray .int, 85, 0, 0, 0), (.putfield 107, 9, 45, 2, 0), (.aload_n 0, 0, 0, 0, 0), (.bipush 9, 0, 0, 0, 0), (.newarray .int, 86, 0, 0, 0), (.putfield 110, 9, 47, 2, 0), (.aload_n 0, 0, 0, 0, 0), (.sipush 400, 0, 0, 0, 0), (.newarray .int, 87, 0, 0, 0), (.putfield 113, 9, 48, 2, 0), (.aload_n 0, 0, 0, 0, 0), (.bipush 33, 0, 0, 0, 0), (.newarray .int, 88, 0, 0, 0), (.putfield 116, 9, 50, 2, 0), (.aload_n 0, 0, 0, 0, 0), (.bipush 33, 0, 0, 0, 0), (.newarray .int, 89, 0, 0, 0), (.putfield 119, 9, 51, 2, 0), (.aload_n 0, 0, 0, 0, 0), (.iconst 4, 0, 0, 0, 0), (.newarray .int, 90, 0, 0, 0), (.putfield 122, 9, 54, 2, 0), (.aload_n 0, 0, 0, 0, 0), (.bipush 16, 0, 0, 0, 0), (.newarray .int, 91, 0, 0, 0), (.putfield 125, 9, 55, 2, 0), (.aload_n 0, 0, 0, 0, 0)]
  | 306 => [(.iconst 4, 0, 0, 0, 0), (.newarray .long, 92, 0, 0, 0), (.putfield 128, 9, 58, 2, 0), (.aload_n 0, 0, 0, 0, 0), (.bipush 20, 0, 0, 0, 0), (.newarray .long, 93, 0, 0, 0), (.putfield 131, 9, 59, 2, 0), (.aload_n 0, 0, 0, 0, 0), (.bipush 6, 0, 0, 0, 0), (.newarray .int, 94, 0, 0, 0), (.putfield 134, 9, 60, 2, 0), (.aload_n 0, 0, 0, 0, 0), (.sipush 1320, 0, 0, 0, 0), (.newarray .int, 95, 0, 0, 0), (.putfield 137, 9, 62, 2, 0), (.aload_n 0, 0, 0, 0, 0), (.bipush 6, 0, 0, 0, 0), (.newarray .long, 96, 0, 0, 0), (.putfield 140, 9, 63, 2, 0), (.aload_n 0, 0, 0, 0, 0), (.iconst 3, 0, 0, 0, 0), (.newarray .int, 97, 0, 0, 0), (.putfield 143, 9, 66, 2, 0), (.aload_n 0, 0, 0, 0, 0), (.bipush 20, 0, 0, 0, 0), (.newarray .int, 98, 0, 0, 0), (.putfield 146, 9, 68, 2, 0), (.aload_n 0, 0, 0, 0, 0), (.bipush 20, 0, 0, 0, 0), (.newarray .int, 99, 0, 0, 0)]
  | 365 => [(.putfield 149, 9, 69, 2, 0), (.aload_n 0, 0, 0, 0, 0), (.bipush 20, 0, 0, 0, 0), (.newarray .boolean, 100, 0, 0, 0), (.putfield 152, 9, 70, 2, 0), (.aload_n 0, 0, 0, 0, 0), (.sipush 144, 0, 0, 0, 0), (.newarray .int, 101, 0, 0, 0), (.putfield 155, 9, 71, 2, 0), (.aload_n 0, 0, 0, 0, 0), (.iconst 3, 0, 0, 0, 0), (.newarray .boolean, 102, 0, 0, 0), (.putfield 158, 9, 72, 2, 0), (.aload_n 0, 0, 0, 0, 0), (.bipush 99, 0, 0, 0, 0), (.newarray .int, 103, 0, 0, 0), (.putfield 161, 9, 73, 2, 0), (.aload_n 0, 0, 0, 0, 0), (.iconst 0, 0, 0, 0, 0), (.invokevirtual 164, 171, 109, 1, 3), (.aload_n 0, 0, 0, 0, 0), (.iconst 1, 0, 0, 0, 0), (.invokevirtual 164, 171, 109, 1, 3), (.aload_n 0, 0, 0, 0, 0), (.getfield 34, 9, 9, 2, 0), (.iconst 0, 0, 0, 0, 0), (.bipush 108, 0, 0, 0, 0), (.bipush 111, 0, 0, 0, 0), (.bipush 103, 0, 0, 0, 0), (.iconst 0, 0, 0, 0, 0)]
  | 422 => [(.iconst 0, 0, 0, 0, 0), (.iconst 0, 0, 0, 0, 0), (.iconst 0, 0, 0, 0, 0), (.invokestatic 168, 162, 0, 7, 7), (.lastore, 0, 0, 0, 0), (.aload_n 0, 0, 0, 0, 0), (.getfield 34, 9, 9, 2, 0), (.iconst 1, 0, 0, 0, 0), (.bipush 102, 0, 0, 0, 0), (.bipush 105, 0, 0, 0, 0), (.bipush 101, 0, 0, 0, 0), (.bipush 108, 0, 0, 0, 0), (.bipush 100, 0, 0, 0, 0), (.iconst 0, 0, 0, 0, 0), (.iconst 0, 0, 0, 0, 0), (.invokestatic 168, 162, 0, 7, 7), (.lastore, 0, 0, 0, 0), (.aload_n 0, 0, 0, 0, 0), (.getfield 34, 9, 9, 2, 0), (.iconst 2, 0, 0, 0, 0), (.bipush 110, 0, 0, 0, 0), (.bipush 111, 0, 0, 0, 0), (.bipush 116, 0, 0, 0, 0), (.bipush 99, 0, 0, 0, 0), (.bipush 104, 0, 0, 0, 0), (.iconst 0, 0, 0, 0, 0), (.iconst 0, 0, 0, 0, 0), (.invokestatic 168, 162, 0, 7, 7), (.lastore, 0, 0, 0, 0), (.aload_n 0, 0, 0, 0, 0)]
  | 472 => [(.getfield 34, 9, 9, 2, 0), (.iconst 3, 0, 0, 0, 0), (.bipush 100, 0, 0, 0, 0), (.bipush 114, 0, 0, 0, 0), (.bipush 97, 0, 0, 0, 0), (.bipush 105, 0, 0, 0, 0), (.bipush 110, 0, 0, 0, 0), (.iconst 0, 0, 0, 0, 0), (.iconst 0, 0, 0, 0, 0), (.invokestatic 168, 162, 0, 7, 7), (.lastore, 0, 0, 0, 0), (.aload_n 0, 0, 0, 0, 0), (.getfield 34, 9, 9, 2, 0), (.iconst 4, 0, 0, 0, 0), (.bipush 115, 0, 0, 0, 0), (.bipush 112, 0, 0, 0, 0), (.bipush 114, 0, 0, 0, 0), (.bipush 105, 0, 0, 0, 0), (.bipush 110, 0, 0, 0, 0), (.bipush 103, 0, 0, 0, 0), (.iconst 0, 0, 0, 0, 0), (.invokestatic 168, 162, 0, 7, 7), (.lastore, 0, 0, 0, 0), (.aload_n 0, 0, 0, 0, 0), (.getfield 34, 9, 9, 2, 0), (.iconst 5, 0, 0, 0, 0), (.bipush 114, 0, 0, 0, 0), (.bipush 105, 0, 0, 0, 0), (.bipush 118, 0, 0, 0, 0), (.bipush 101, 0, 0, 0, 0)]
  | 527 => [(.bipush 114, 0, 0, 0, 0), (.iconst 0, 0, 0, 0, 0), (.iconst 0, 0, 0, 0, 0), (.invokestatic 168, 162, 0, 7, 7), (.lastore, 0, 0, 0, 0), (.aload_n 0, 0, 0, 0, 0), (.getfield 34, 9, 9, 2, 0), (.bipush 6, 0, 0, 0, 0), (.bipush 110, 0, 0, 0, 0), (.bipush 101, 0, 0, 0, 0), (.bipush 101, 0, 0, 0, 0), (.bipush 100, 0, 0, 0, 0), (.bipush 115, 0, 0, 0, 0), (.iconst 0, 0, 0, 0, 0), (.iconst 0, 0, 0, 0, 0), (.invokestatic 168, 162, 0, 7, 7), (.lastore, 0, 0, 0, 0), (.aload_n 0, 0, 0, 0, 0), (.getfield 34, 9, 9, 2, 0), (.bipush 7, 0, 0, 0, 0), (.bipush 119, 0, 0, 0, 0), (.bipush 111, 0, 0, 0, 0), (.bipush 114, 0, 0, 0, 0), (.bipush 116, 0, 0, 0, 0), (.bipush 104, 0, 0, 0, 0), (.iconst 0, 0, 0, 0, 0), (.iconst 0, 0, 0, 0, 0), (.invokestatic 168, 162, 0, 7, 7), (.lastore, 0, 0, 0, 0), (.aload_n 0, 0, 0, 0, 0)]
  | 580 => [(.getfield 34, 9, 9, 2, 0), (.bipush 8, 0, 0, 0, 0), (.bipush 99, 0, 0, 0, 0), (.bipush 111, 0, 0, 0, 0), (.bipush 115, 0, 0, 0, 0), (.bipush 116, 0, 0, 0, 0), (.bipush 115, 0, 0, 0, 0), (.iconst 0, 0, 0, 0, 0), (.iconst 0, 0, 0, 0, 0), (.invokestatic 168, 162, 0, 7, 7), (.lastore, 0, 0, 0, 0), (.aload_n 0, 0, 0, 0, 0), (.getfield 34, 9, 9, 2, 0), (.bipush 9, 0, 0, 0, 0), (.bipush 115, 0, 0, 0, 0), (.bipush 105, 0, 0, 0, 0), (.bipush 108, 0, 0, 0, 0), (.bipush 116, 0, 0, 0, 0), (.bipush 115, 0, 0, 0, 0), (.iconst 0, 0, 0, 0, 0), (.iconst 0, 0, 0, 0, 0), (.invokestatic 168, 162, 0, 7, 7), (.lastore, 0, 0, 0, 0), (.aload_n 0, 0, 0, 0, 0), (.getfield 34, 9, 9, 2, 0), (.bipush 10, 0, 0, 0, 0), (.bipush 115, 0, 0, 0, 0), (.bipush 101, 0, 0, 0, 0), (.bipush 101, 0, 0, 0, 0), (.bipush 100, 0, 0, 0, 0)]
  | 637 => [(.iconst 0, 0, 0, 0, 0), (.iconst 0, 0, 0, 0, 0), (.iconst 0, 0, 0, 0, 0), (.invokestatic 168, 162, 0, 7, 7), (.lastore, 0, 0, 0, 0), (.aload_n 0, 0, 0, 0, 0), (.getfield 34, 9, 9, 2, 0), (.bipush 11, 0, 0, 0, 0), (.bipush 105, 0, 0, 0, 0), (.bipush 102, 0, 0, 0, 0), (.iconst 0, 0, 0, 0, 0), (.iconst 0, 0, 0, 0, 0), (.iconst 0, 0, 0, 0, 0), (.iconst 0, 0, 0, 0, 0), (.iconst 0, 0, 0, 0, 0), (.invokestatic 168, 162, 0, 7, 7), (.lastore, 0, 0, 0, 0), (.aload_n 0, 0, 0, 0, 0), (.getfield 34, 9, 9, 2, 0), (.bipush 12, 0, 0, 0, 0), (.bipush 116, 0, 0, 0, 0), (.bipush 104, 0, 0, 0, 0), (.bipush 101, 0, 0, 0, 0), (.bipush 110, 0, 0, 0, 0), (.iconst 0, 0, 0, 0, 0), (.iconst 0, 0, 0, 0, 0), (.iconst 0, 0, 0, 0, 0), (.invokestatic 168, 162, 0, 7, 7), (.lastore, 0, 0, 0, 0), (.aload_n 0, 0, 0, 0, 0)]
  | 685 => [(.getfield 34, 9, 9, 2, 0), (.bipush 13, 0, 0, 0, 0), (.bipush 101, 0, 0, 0, 0), (.bipush 108, 0, 0, 0, 0), (.bipush 115, 0, 0, 0, 0), (.bipush 101, 0, 0, 0, 0), (.iconst 0, 0, 0, 0, 0), (.iconst 0, 0, 0, 0, 0), (.iconst 0, 0, 0, 0, 0), (.invokestatic 168, 162, 0, 7, 7), (.lastore, 0, 0, 0, 0), (.aload_n 0, 0, 0, 0, 0), (.getfield 34, 9, 9, 2, 0), (.bipush 14, 0, 0, 0, 0), (.bipush 102, 0, 0, 0, 0), (.bipush 108, 0, 0, 0, 0), (.bipush 111, 0, 0, 0, 0), (.bipush 119, 0, 0, 0, 0), (.iconst 0, 0, 0, 0, 0), (.iconst 0, 0, 0, 0, 0), (.iconst 0, 0, 0, 0, 0), (.invokestatic 168, 162, 0, 7, 7), (.lastore, 0, 0, 0, 0), (.aload_n 0, 0, 0, 0, 0), (.getfield 34, 9, 9, 2, 0), (.bipush 15, 0, 0, 0, 0), (.bipush 97, 0, 0, 0, 0), (.bipush 114, 0, 0, 0, 0), (.bipush 101, 0, 0, 0, 0), (.bipush 97, 0, 0, 0, 0)]
  | 740 => [(.iconst 0, 0, 0, 0, 0), (.iconst 0, 0, 0, 0, 0), (.iconst 0, 0, 0, 0, 0), (.invokestatic 168, 162, 0, 7, 7), (.lastore, 0, 0, 0, 0), (.aload_n 0, 0, 0, 0, 0), (.getfield 34, 9, 9, 2, 0), (.bipush 16, 0, 0, 0, 0), (.bipush 119, 0, 0, 0, 0), (.bipush 105, 0, 0, 0, 0), (.bipush 100, 0, 0, 0, 0), (.bipush 101, 0, 0, 0, 0), (.iconst 0, 0, 0, 0, 0), (.iconst 0, 0, 0, 0, 0), (.iconst 0, 0, 0, 0, 0), (.invokestatic 168, 162, 0, 7, 7), (.lastore, 0, 0, 0, 0), (.aload_n 0, 0, 0, 0, 0), (.getfield 34, 9, 9, 2, 0), (.bipush 17, 0, 0, 0, 0), (.bipush 103, 0, 0, 0, 0), (.bipush 114, 0, 0, 0, 0), (.bipush 111, 0, 0, 0, 0), (.bipush 119, 0, 0, 0, 0), (.bipush 110, 0, 0, 0, 0), (.iconst 0, 0, 0, 0, 0), (.iconst 0, 0, 0, 0, 0), (.invokestatic 168, 162, 0, 7, 7), (.lastore, 0, 0, 0, 0), (.aload_n 0, 0, 0, 0, 0)]
  | 791 => [(.getfield 34, 9, 9, 2, 0), (.bipush 18, 0, 0, 0, 0), (.bipush 100, 0, 0, 0, 0), (.bipush 97, 0, 0, 0, 0), (.bipush 121, 0, 0, 0, 0), (.iconst 0, 0, 0, 0, 0), (.iconst 0, 0, 0, 0, 0), (.iconst 0, 0, 0, 0, 0), (.iconst 0, 0, 0, 0, 0), (.invokestatic 168, 162, 0, 7, 7), (.lastore, 0, 0, 0, 0), (.aload_n 0, 0, 0, 0, 0), (.getfield 34, 9, 9, 2, 0), (.bipush 19, 0, 0, 0, 0), (.bipush 119, 0, 0, 0, 0), (.bipush 104, 0, 0, 0, 0), (.bipush 105, 0, 0, 0, 0), (.bipush 99, 0, 0, 0, 0), (.bipush 104, 0, 0, 0, 0), (.iconst 0, 0, 0, 0, 0), (.iconst 0, 0, 0, 0, 0), (.invokestatic 168, 162, 0, 7, 7), (.lastore, 0, 0, 0, 0), (.aload_n 0, 0, 0, 0, 0), (.getfield 34, 9, 9, 2, 0), (.bipush 20, 0, 0, 0, 0), (.bipush 115, 0, 0, 0, 0), (.bipush 116, 0, 0, 0, 0), (.bipush 111, 0, 0, 0, 0), (.bipush 114, 0, 0, 0, 0)]
  | 846 => [(.bipush 101, 0, 0, 0, 0), (.iconst 0, 0, 0, 0, 0), (.iconst 0, 0, 0, 0, 0), (.invokestatic 168, 162, 0, 7, 7), (.lastore, 0, 0, 0, 0), (.aload_n 0, 0, 0, 0, 0), (.getfield 34, 9, 9, 2, 0), (.bipush 21, 0, 0, 0, 0), (.bipush 108, 0, 0, 0, 0), (.bipush 111, 0, 0, 0, 0), (.bipush 103, 0, 0, 0, 0), (.bipush 115, 0, 0, 0, 0), (.iconst 0, 0, 0, 0, 0), (.iconst 0, 0, 0, 0, 0), (.iconst 0, 0, 0, 0, 0), (.invokestatic 168, 162, 0, 7, 7), (.lastore, 0, 0, 0, 0), (.aload_n 0, 0, 0, 0, 0), (.getfield 34, 9, 9, 2, 0), (.bipush 22, 0, 0, 0, 0), (.bipush 102, 0, 0, 0, 0), (.bipush 105, 0, 0, 0, 0), (.bipush 101, 0, 0, 0, 0), (.bipush 108, 0, 0, 0, 0), (.bipush 100, 0, 0, 0, 0), (.bipush 115, 0, 0, 0, 0), (.iconst 0, 0, 0, 0, 0), (.invokestatic 168, 162, 0, 7, 7), (.lastore, 0, 0, 0, 0), (.aload_n 0, 0, 0, 0, 0)]
  | 899 => [(.invokevirtual 172, 201, 109, 0, 2), (.aload_n 0, 0, 0, 0, 0), (.invokevirtual 175, 202, 109, 0, 2), (.return_, 0, 0, 0, 0)]
  | _ => []
set_option maxRecDepth 20000 in
theorem ck_154 : ∀ t, chkL 154 t (bk_154 t) = true := by
  intro t
  unfold bk_154
  split <;> first | decide +kernel | rfl
def cu_154 : Nat → Option (List Nat) := fun _ => none
/-- SluiceLogsModel.feed(IIIII)I -/
def bk_155 : Nat → List Ins := fun t => match t with
  | 0 => [(.aload_n 0, 0, 0, 0, 0), (.getfield 178, 9, 2, 0, 0), (.bipush 20, 0, 0, 0, 0), (.iadd, 0, 0, 0, 0), (.sipush 2000, 0, 0, 0, 0), (.if_icmp .le 5, 15, 0, 0, 0), (.iconst (-1), 0, 0, 0, 0), (.ireturn, 0, 0, 0, 0)]
  | 15 => [(.aload_n 0, 0, 0, 0, 0), (.iload_n 1, 1, 0, 0, 0), (.invokevirtual 181, 156, 109, 1, 3), (.aload_n 0, 0, 0, 0, 0), (.iload_n 2, 2, 0, 0, 0), (.invokevirtual 181, 156, 109, 1, 3), (.aload_n 0, 0, 0, 0, 0), (.iload_n 3, 3, 0, 0, 0), (.invokevirtual 181, 156, 109, 1, 3), (.aload_n 0, 0, 0, 0, 0), (.iload 4, 4, 0, 0, 0), (.invokevirtual 181, 156, 109, 1, 3), (.aload_n 0, 0, 0, 0, 0), (.iload 5, 5, 0, 0, 0), (.invokevirtual 181, 156, 109, 1, 3), (.aload_n 0, 0, 0, 0, 0), (.getfield 178, 9, 2, 0, 0), (.ireturn, 0, 0, 0, 0)]
  | _ => []
set_option maxRecDepth 20000 in
theorem ck_155 : ∀ t, chkL 155 t (bk_155 t) = true := by
  intro t
  unfold bk_155
  split <;> first | decide +kernel | rfl
def cu_155 : Nat → Option (List Nat) := fun _ => none
/-- SluiceLogsModel.lays(I)V -/
def bk_156 : Nat → List Ins := fun t => match t with
  | 0 => [(.bipush 24, 0, 0, 0, 0), (.istore_n 2, 2, 0, 0, 0)]
  | 3 => [(.iload_n 2, 2, 0, 0, 0), (.ifCond .lt 32, 36, 0, 0, 0), (.aload_n 0, 0, 0, 0, 0), (.getfield 13, 9, 1, 2, 0), (.aload_n 0, 0, 0, 0, 0), (.getfield 178, 9, 2, 0, 0), (.iload_n 1, 1, 0, 0, 0), (.iload_n 2, 2, 0, 0, 0), (.ishr, 0, 0, 0, 0), (.i2b, 0, 0, 0, 0), (.bastore, 0, 0, 0, 0), (.aload_n 0, 0, 0, 0, 0), (.dup, 0, 0, 0, 0), (.getfield 178, 9, 2, 0, 0), (.iconst 1, 0, 0, 0, 0), (.iadd, 0, 0, 0, 0), (.putfield 178, 9, 2, 0, 0), (.iinc 2 (-8), 2, 0, 0, 0), (.goto (-30), 3, 0, 0, 0)]
  | 36 => [(.return_, 0, 0, 0, 0)]
  | _ => []
set_option maxRecDepth 20000 in
theorem ck_156 : ∀ t, chkL 156 t (bk_156 t) = true := by
  intro t
  unfold bk_156
  split <;> first | decide +kernel | rfl
def cu_156 : Nat → Option (List Nat) := fun t => match t with | 3 => some [0, 1, 2] | _ => none
/-- SluiceLogsModel.back(I)I -/
def bk_157 : Nat → List Ins := fun t => match t with
  | 0 => [(.iload_n 1, 1, 0, 0, 0), (.ifCond .lt 11, 12, 0, 0, 0), (.iload_n 1, 1, 0, 0, 0), (.aload_n 0, 0, 0, 0, 0), (.getfield 178, 9, 2, 0, 0), (.if_icmp .le 5, 14, 0, 0, 0)]
  | 12 => [(.iconst (-1), 0, 0, 0, 0), (.ireturn, 0, 0, 0, 0)]
  | 14 => [(.aload_n 0, 0, 0, 0, 0), (.dup, 0, 0, 0, 0), (.getfield 178, 9, 2, 0, 0), (.iload_n 1, 1, 0, 0, 0), (.isub, 0, 0, 0, 0), (.putfield 178, 9, 2, 0, 0), (.aload_n 0, 0, 0, 0, 0), (.getfield 178, 9, 2, 0, 0), (.ireturn, 0, 0, 0, 0)]
  | _ => []
set_option maxRecDepth 20000 in
theorem ck_157 : ∀ t, chkL 157 t (bk_157 t) = true := by
  intro t
  unfold bk_157
  split <;> first | decide +kernel | rfl
def cu_157 : Nat → Option (List Nat) := fun _ => none
/-- SluiceLogsModel.byteAt(I)I -/
def bk_158 : Nat → List Ins := fun t => match t with
  | 0 => [(.iload_n 1, 1, 0, 0, 0), (.aload_n 0, 0, 0, 0, 0), (.getfield 184, 9, 4, 0, 0), (.if_icmp .ge 16, 21, 0, 0, 0), (.aload_n 0, 0, 0, 0, 0), (.getfield 17, 9, 3, 2, 0), (.iload_n 1, 1, 0, 0, 0), (.baload, 0, 0, 0, 0), (.sipush 255, 0, 0, 0, 0), (.iand, 0, 0, 0, 0), (.goto 4, 22, 0, 0, 0)]
  | 21 => [(.iconst 0, 0, 0, 0, 0)]
  | 22 => [(.ireturn, 0, 0, 0, 0)]
  | _ => []
set_option maxRecDepth 20000 in
theorem ck_158 : ∀ t, chkL 158 t (bk_158 t) = true := by
  intro t
  unfold bk_158
  split <;> first | decide +kernel | rfl
def cu_158 : Nat → Option (List Nat) := fun _ => none
/-- SluiceLogsModel.isDigit(I)Z -/
def bk_159 : Nat → List Ins := fun t => match t with
  | 0 => [(.iload_n 0, 0, 0, 0, 0), (.bipush 48, 0, 0, 0, 0), (.if_icmp .lt 13, 16, 0, 0, 0), (.iload_n 0, 0, 0, 0, 0), (.bipush 57, 0, 0, 0, 0), (.if_icmp .gt 7, 16, 0, 0, 0), (.iconst 1, 0, 0, 0, 0), (.goto 4, 17, 0, 0, 0)]
  | 16 => [(.iconst 0, 0, 0, 0, 0)]
  | 17 => [(.ireturn, 3, 0, 0, 0)]
  | _ => []
set_option maxRecDepth 20000 in
theorem ck_159 : ∀ t, chkL 159 t (bk_159 t) = true := by
  intro t
  unfold bk_159
  split <;> first | decide +kernel | rfl
def cu_159 : Nat → Option (List Nat) := fun _ => none
/-- SluiceLogsModel.isLetter(I)Z -/
def bk_160 : Nat → List Ins := fun t => match t with
  | 0 => [(.iload_n 0, 0, 0, 0, 0), (.bipush 97, 0, 0, 0, 0), (.if_icmp .lt 13, 16, 0, 0, 0), (.iload_n 0, 0, 0, 0, 0), (.bipush 122, 0, 0, 0, 0), (.if_icmp .gt 7, 16, 0, 0, 0), (.iconst 1, 0, 0, 0, 0), (.goto 4, 17, 0, 0, 0)]
  | 16 => [(.iconst 0, 0, 0, 0, 0)]
  | 17 => [(.ireturn, 3, 0, 0, 0)]
  | _ => []
set_option maxRecDepth 20000 in
theorem ck_160 : ∀ t, chkL 160 t (bk_160 t) = true := by
  intro t
  unfold bk_160
  split <;> first | decide +kernel | rfl
def cu_160 : Nat → Option (List Nat) := fun _ => none
/-- SluiceLogsModel.appends(JI)J -/
def bk_161 : Nat → List Ins := fun t => match t with
  | 0 => [(.iload_n 2, 2, 0, 0, 0), (.ifCond .ne 7, 8, 0, 0, 0), (.lload_n 0, 0, 0, 0, 0), (.goto 16, 21, 0, 0, 0)]
  | 8 => [(.ldc2_w 187, 27, 0, 0, 0), (.lload_n 0, 0, 0, 0, 0), (.lmul, 0, 0, 0, 0), (.iload_n 2, 2, 0, 0, 0), (.bipush 97, 0, 0, 0, 0), (.isub, 0, 0, 0, 0), (.iconst 1, 0, 0, 0, 0), (.iadd, 0, 0, 0, 0), (.i2l, 0, 0, 0, 0), (.ladd, 0, 0, 0, 0)]
  | 21 => [(.lreturn, 0, 0, 0, 0)]
  | _ => []
set_option maxRecDepth 20000 in
theorem ck_161 : ∀ t, chkL 161 t (bk_161 t) = true := by
  intro t
  unfold bk_161
  split <;> first | decide +kernel | rfl
def cu_161 : Nat → Option (List Nat) := fun _ => none
/-- SluiceLogsModel.letters(IIIIIII)J -/
def bk_162 : Nat → List Ins := fun t => match t with
  | 0 => [(.lconst 0, 0, 0, 0, 0), (.iload_n 0, 0, 0, 0, 0), (.invokestatic 189, 161, 0, 2, 3), (.iload_n 1, 1, 0, 0, 0), (.invokestatic 189, 161, 0, 2, 3), (.iload_n 2, 2, 0, 0, 0), (.invokestatic 189, 161, 0, 2, 3), (.iload_n 3, 3, 0, 0, 0), (.invokestatic 189, 161, 0, 2, 3), (.iload 4, 4, 0, 0, 0), (.invokestatic 189, 161, 0, 2, 3), (.iload 5, 5, 0, 0, 0), (.invokestatic 189, 161, 0, 2, 3), (.iload 6, 6, 0, 0, 0), (.invokestatic 189, 161, 0, 2, 3), (.lreturn, 0, 0, 0, 0)]
  | _ => []
set_option maxRecDepth 20000 in
theorem ck_162 : ∀ t, chkL 162 t (bk_162 t) = true := by
  intro t
  unfold bk_162
  split <;> first | decide +kernel | rfl
def cu_162 : Nat → Option (List Nat) := fun _ => none
/-- SluiceLogsModel.token(IIIJ)V -/
def bk_163 : Nat → List Ins := fun t => match t with
  | 0 => [(.aload_n 0, 0, 0, 0, 0), (.getfield 20, 9, 5, 2, 0), (.aload_n 0, 0, 0, 0, 0), (.getfield 193, 9, 10, 0, 0), (.iload_n 1, 1, 0, 0, 0), (.iastore, 0, 0, 0, 0), (.aload_n 0, 0, 0, 0, 0), (.getfield 24, 9, 6, 2, 0), (.aload_n 0, 0, 0, 0, 0), (.getfield 193, 9, 10, 0, 0), (.iload_n 2, 2, 0, 0, 0), (.iastore, 0, 0, 0, 0), (.aload_n 0, 0, 0, 0, 0), (.getfield 27, 9, 7, 2, 0), (.aload_n 0, 0, 0, 0, 0), (.getfield 193, 9, 10, 0, 0), (.iload_n 3, 3, 0, 0, 0), (.iastore, 0, 0, 0, 0), (.aload_n 0, 0, 0, 0, 0), (.getfield 30, 9, 8, 2, 0), (.aload_n 0, 0, 0, 0, 0), (.getfield 193, 9, 10, 0, 0), (.lload 4, 4, 0, 0, 0), (.lastore, 0, 0, 0, 0), (.aload_n 0, 0, 0, 0, 0), (.dup, 0, 0, 0, 0), (.getfield 193, 9, 10, 0, 0), (.iconst 1, 0, 0, 0, 0), (.iadd, 0, 0, 0, 0), (.putfield 193, 9, 10, 0, 0), (.return_, 0, 0, 0, 0)]
  | _ => []
set_option maxRecDepth 20000 in
theorem ck_163 : ∀ t, chkL 163 t (bk_163 t) = true := by
  intro t
  unfold bk_163
  split <;> first | decide +kernel | rfl
def cu_163 : Nat → Option (List Nat) := fun _ => none
/-- SluiceLogsModel.cut()V -/
def bk_164 : Nat → List Ins := fun t => match t with
  | 0 => [(.aload_n 0, 0, 0, 0, 0), (.iconst 0, 0, 0, 0, 0), (.putfield 193, 9, 10, 0, 0), (.iconst 0, 0, 0, 0, 0), (.istore_n 1, 1, 0, 0, 0)]
  | 7 => [(.aload_n 0, 0, 0, 0, 0), (.getfield 193, 9, 10, 0, 0), (.sipush 400, 0, 0, 0, 0), (.if_icmp .gt 280, 294, 0, 0, 0), (.aload_n 0, 0, 0, 0, 0), (.iload_n 1, 1, 0, 0, 0), (.invokevirtual 196, 158, 109, 1, 2), (.istore_n 2, 2, 0, 0, 0), (.iload_n 1, 1, 0, 0, 0), (.aload_n 0, 0, 0, 0, 0), (.getfield 184, 9, 4, 0, 0), (.if_icmp .lt 15, 43, 0, 0, 0), (.aload_n 0, 0, 0, 0, 0), (.iconst 0, 0, 0, 0, 0), (.aload_n 0, 0, 0, 0, 0), (.getfield 184, 9, 4, 0, 0), (.iconst 0, 0, 0, 0, 0), (.lconst 0, 0, 0, 0, 0), (.invokevirtual 200, 163, 109, 4, 6), (.return_, 0, 0, 0, 0)]
  | 43 => [(.iload_n 2, 2, 0, 0, 0), (.bipush 9, 0, 0, 0, 0), (.if_icmp .eq 21, 67, 0, 0, 0), (.iload_n 2, 2, 0, 0, 0), (.bipush 10, 0, 0, 0, 0), (.if_icmp .eq 15, 67, 0, 0, 0), (.iload_n 2, 2, 0, 0, 0), (.bipush 13, 0, 0, 0, 0), (.if_icmp .eq 9, 67, 0, 0, 0), (.iload_n 2, 2, 0, 0, 0), (.bipush 32, 0, 0, 0, 0), (.if_icmp .ne 9, 73, 0, 0, 0)]
  | 67 => [(.iinc 1 1, 1, 0, 0, 0), (.goto 221, 291, 0, 0, 0)]
  | 73 => [(.iload_n 2, 2, 0, 0, 0), (.invokestatic 204, 160, 0, 1, 1), (.ifCond .eq 119, 196, 0, 0, 0), (.iconst 0, 0, 0, 0, 0), (.istore_n 3, 3, 0, 0, 0), (.lconst 0, 0, 0, 0, 0), (.lstore 4, 4, 0, 0, 0)]
  | 85 => [(.aload_n 0, 0, 0, 0, 0), (.iload_n 1, 1, 0, 0, 0), (.iload_n 3, 3, 0, 0, 0), (.iadd, 0, 0, 0, 0), (.invokevirtual 196, 158, 109, 1, 2), (.invokestatic 204, 160, 0, 1, 1), (.ifCond .eq 29, 124, 0, 0, 0), (.iload_n 3, 3, 0, 0, 0), (.bipush 8, 0, 0, 0, 0), (.if_icmp .ge 17, 118, 0, 0, 0), (.lload 4, 4, 0, 0, 0), (.aload_n 0, 0, 0, 0, 0), (.iload_n 1, 1, 0, 0, 0), (.iload_n 3, 3, 0, 0, 0), (.iadd, 0, 0, 0, 0), (.invokevirtual 196, 158, 109, 1, 2), (.invokestatic 189, 161, 0, 2, 3), (.lstore 4, 4, 0, 0, 0)]
  | 118 => [(.iinc 3 1, 3, 0, 0, 0), (.goto (-36), 85, 0, 0, 0)]
  | 124 => [(.iload_n 3, 3, 0, 0, 0), (.bipush 8, 0, 0, 0, 0), (.if_icmp .le 7, 134, 0, 0, 0), (.iconst 3, 0, 0, 0, 0), (.goto 4, 135, 0, 0, 0)]
  | 134 => [(.iconst 1, 0, 0, 0, 0)]
  | 135 => [(.istore 6, 6, 0, 0, 0), (.iload_n 3, 3, 0, 0, 0), (.bipush 8, 0, 0, 0, 0), (.if_icmp .gt 39, 179, 0, 0, 0), (.iconst 0, 0, 0, 0, 0), (.istore 7, 7, 0, 0, 0)]
  | 146 => [(.iload 7, 7, 0, 0, 0), (.bipush 23, 0, 0, 0, 0), (.if_icmp .ge 29, 179, 0, 0, 0), (.aload_n 0, 0, 0, 0, 0), (.getfield 34, 9, 9, 2, 0), (.iload 7, 7, 0, 0, 0), (.laload, 0, 0, 0, 0), (.lload 4, 4, 0, 0, 0), (.lcmp, 0, 0, 0, 0), (.ifCond .ne 10, 173, 0, 0, 0), (.bipush 20, 0, 0, 0, 0), (.iload 7, 7, 0, 0, 0), (.iadd, 0, 0, 0, 0), (.istore 6, 6, 0, 0, 0)]
  | 173 => [(.iinc 7 1, 7, 0, 0, 0), (.goto (-30), 146, 0, 0, 0)]
  | 179 => [(.aload_n 0, 0, 0, 0, 0), (.iload 6, 6, 0, 0, 0), (.iload_n 1, 1, 0, 0, 0), (.iconst 0, 0, 0, 0, 0), (.lload 4, 4, 0, 0, 0), (.invokevirtual 200, 163, 109, 4, 6), (.iload_n 1, 1, 0, 0, 0), (.iload_n 3, 3, 0, 0, 0), (.iadd, 0, 0, 0, 0), (.istore_n 1, 1, 0, 0, 0), (.goto 98, 291, 0, 0, 0)]
  | 196 => [(.iload_n 2, 2, 0, 0, 0), (.invokestatic 208, 159, 0, 1, 1), (.ifCond .eq 75, 275, 0, 0, 0), (.iconst 0, 0, 0, 0, 0), (.istore_n 3, 3, 0, 0, 0), (.iconst 0, 0, 0, 0, 0), (.istore 4, 4, 0, 0, 0)]
  | 208 => [(.aload_n 0, 0, 0, 0, 0), (.iload_n 1, 1, 0, 0, 0), (.iload_n 3, 3, 0, 0, 0), (.iadd, 0, 0, 0, 0), (.invokevirtual 196, 158, 109, 1, 2), (.invokestatic 208, 159, 0, 1, 1), (.ifCond .eq 32, 250, 0, 0, 0), (.iload_n 3, 3, 0, 0, 0), (.iconst 4, 0, 0, 0, 0), (.if_icmp .ge 21, 244, 0, 0, 0), (.bipush 10, 0, 0, 0, 0), (.iload 4, 4, 0, 0, 0), (.imul, 0, 0, 0, 0), (.aload_n 0, 0, 0, 0, 0), (.iload_n 1, 1, 0, 0, 0), (.iload_n 3, 3, 0, 0, 0), (.iadd, 0, 0, 0, 0), (.invokevirtual 196, 158, 109, 1, 2), (.iadd, 0, 0, 0, 0), (.bipush 48, 0, 0, 0, 0), (.isub, 0, 0, 0, 0), (.istore 4, 4, 0, 0, 0)]
  | 244 => [(.iinc 3 1, 3, 0, 0, 0), (.goto (-39), 208, 0, 0, 0)]
  | 250 => [(.aload_n 0, 0, 0, 0, 0), (.iload_n 3, 3, 0, 0, 0), (.iconst 4, 0, 0, 0, 0), (.if_icmp .le 7, 260, 0, 0, 0), (.iconst 3, 0, 0, 0, 0), (.goto 4, 261, 0, 0, 0)]
  | 260 => [(.iconst 2, 0, 0, 0, 0)]
  | 261 => [(.iload_n 1, 1, 0, 0, 0), (.iload 4, 4, 0, 0, 0), (.lconst 0, 0, 0, 0, 0), (.invokevirtual 200, 163, 109, 4, 6), (.iload_n 1, 1, 0, 0, 0), (.iload_n 3, 3, 0, 0, 0), (.iadd, 0, 0, 0, 0), (.istore_n 1, 1, 0, 0, 0), (.goto 19, 291, 0, 0, 0)]
  | 275 => [(.iload_n 1, 1, 0, 0, 0), (.aload_n 0, 0, 0, 0, 0), (.iload_n 1, 1, 0, 0, 0), (.iload_n 2, 2, 0, 0, 0), (.aload_n 0, 0, 0, 0, 0), (.iload_n 1, 1, 0, 0, 0), (.iconst 1, 0, 0, 0, 0), (.iadd, 0, 0, 0, 0), (.invokevirtual 196, 158, 109, 1, 2), (.invokevirtual 211, 165, 109, 3, 5), (.iadd, 0, 0, 0, 0), (.istore_n 1, 1, 0, 0, 0)]
  | 291 => [(.goto (-284), 7, 0, 0, 0)]
  | 294 => [(.return_, 0, 0, 0, 0)]
  | _ => []
set_option maxRecDepth 20000 in
theorem ck_164 : ∀ t, chkL 164 t (bk_164 t) = true := by
  intro t
  unfold bk_164
  split <;> first | decide +kernel | rfl
def cu_164 : Nat → Option (List Nat) := fun t => match t with | 7 => some [0, 1] | 85 => some [0, 1, 3, 4] | 146 => some [0, 1, 3, 4, 6, 7] | 208 => some [0, 1, 3, 4] | _ => none
/-- SluiceLogsModel.sign(III)I -/
def bk_165 : Nat → List Ins := fun t => match t with
  | 0 => [(.iload_n 2, 2, 0, 0, 0), (.bipush 59, 0, 0, 0, 0), (.if_icmp .ne 7, 10, 0, 0, 0), (.iconst 4, 0, 0, 0, 0), (.goto 36, 43, 0, 0, 0)]
  | 10 => [(.iload_n 2, 2, 0, 0, 0), (.bipush 61, 0, 0, 0, 0), (.if_icmp .ne 7, 20, 0, 0, 0), (.iconst 5, 0, 0, 0, 0), (.goto 26, 43, 0, 0, 0)]
  | 20 => [(.iload_n 2, 2, 0, 0, 0), (.bipush 40, 0, 0, 0, 0), (.if_icmp .ne 8, 31, 0, 0, 0), (.bipush 6, 0, 0, 0, 0), (.goto 15, 43, 0, 0, 0)]
  | 31 => [(.iload_n 2, 2, 0, 0, 0), (.bipush 41, 0, 0, 0, 0), (.if_icmp .ne 8, 42, 0, 0, 0), (.bipush 7, 0, 0, 0, 0), (.goto 4, 43, 0, 0, 0)]
  | 42 => [(.iconst 3, 0, 0, 0, 0)]
  | 43 => [(.istore 4, 4, 0, 0, 0), (.iload_n 2, 2, 0, 0, 0), (.bipush 43, 0, 0, 0, 0), (.if_icmp .ne 7, 55, 0, 0, 0), (.bipush 8, 0, 0, 0, 0), (.istore 4, 4, 0, 0, 0)]
  | 55 => [(.iload_n 2, 2, 0, 0, 0), (.bipush 45, 0, 0, 0, 0), (.if_icmp .ne 7, 65, 0, 0, 0), (.bipush 9, 0, 0, 0, 0), (.istore 4, 4, 0, 0, 0)]
  | 65 => [(.iload_n 2, 2, 0, 0, 0), (.bipush 42, 0, 0, 0, 0), (.if_icmp .ne 7, 75, 0, 0, 0), (.bipush 10, 0, 0, 0, 0), (.istore 4, 4, 0, 0, 0)]
  | 75 => [(.iload_n 2, 2, 0, 0, 0), (.bipush 47, 0, 0, 0, 0), (.if_icmp .ne 7, 85, 0, 0, 0), (.bipush 15, 0, 0, 0, 0), (.istore 4, 4, 0, 0, 0)]
  | 85 => [(.iload_n 2, 2, 0, 0, 0), (.bipush 60, 0, 0, 0, 0), (.if_icmp .ne 7, 95, 0, 0, 0), (.bipush 13, 0, 0, 0, 0), (.istore 4, 4, 0, 0, 0)]
  | 95 => [(.aload_n 0, 0, 0, 0, 0), (.iload 4, 4, 0, 0, 0), (.iload_n 1, 1, 0, 0, 0), (.iconst 0, 0, 0, 0, 0), (.lconst 0, 0, 0, 0, 0), (.invokevirtual 200, 163, 109, 4, 6), (.iconst 1, 0, 0, 0, 0), (.ireturn, 0, 0, 0, 0)]
  | _ => []
set_option maxRecDepth 20000 in
theorem ck_165 : ∀ t, chkL 165 t (bk_165 t) = true := by
  intro t
  unfold bk_165
  split <;> first | decide +kernel | rfl
def cu_165 : Nat → Option (List Nat) := fun _ => none
/-- SluiceLogsModel.is(I)Z -/
def bk_166 : Nat → List Ins := fun t => match t with
  | 0 => [(.aload_n 0, 0, 0, 0, 0), (.getfield 215, 9, 13, 0, 0), (.ifCond .ne 20, 24, 0, 0, 0), (.aload_n 0, 0, 0, 0, 0), (.getfield 20, 9, 5, 2, 0), (.aload_n 0, 0, 0, 0, 0), (.getfield 218, 9, 11, 0, 0), (.iaload, 0, 0, 0, 0), (.iload_n 1, 1, 0, 0, 0), (.if_icmp .ne 7, 24, 0, 0, 0), (.iconst 1, 0, 0, 0, 0), (.goto 4, 25, 0, 0, 0)]
  | 24 => [(.iconst 0, 0, 0, 0, 0)]
  | 25 => [(.ireturn, 3, 0, 0, 0)]
  | _ => []
set_option maxRecDepth 20000 in
theorem ck_166 : ∀ t, chkL 166 t (bk_166 t) = true := by
  intro t
  unfold bk_166
  split <;> first | decide +kernel | rfl
def cu_166 : Nat → Option (List Nat) := fun _ => none
/-- SluiceLogsModel.fail(I)V -/
def bk_167 : Nat → List Ins := fun t => match t with
  | 0 => [(.aload_n 0, 0, 0, 0, 0), (.getfield 215, 9, 13, 0, 0), (.ifCond .le 4, 8, 0, 0, 0), (.return_, 0, 0, 0, 0)]
  | 8 => [(.aload_n 0, 0, 0, 0, 0), (.iload_n 1, 1, 0, 0, 0), (.putfield 215, 9, 13, 0, 0), (.aload_n 0, 0, 0, 0, 0), (.aload_n 0, 0, 0, 0, 0), (.getfield 24, 9, 6, 2, 0), (.aload_n 0, 0, 0, 0, 0), (.getfield 218, 9, 11, 0, 0), (.iaload, 0, 0, 0, 0), (.putfield 221, 9, 14, 0, 0), (.return_, 0, 0, 0, 0)]
  | _ => []
set_option maxRecDepth 20000 in
theorem ck_167 : ∀ t, chkL 167 t (bk_167 t) = true := by
  intro t
  unfold bk_167
  split <;> first | decide +kernel | rfl
def cu_167 : Nat → Option (List Nat) := fun _ => none
/-- SluiceLogsModel.wrong(II)V -/
def bk_168 : Nat → List Ins := fun t => match t with
  | 0 => [(.aload_n 0, 0, 0, 0, 0), (.getfield 24, 9, 6, 2, 0), (.iload_n 2, 2, 0, 0, 0), (.iaload, 0, 0, 0, 0), (.istore_n 3, 3, 0, 0, 0), (.aload_n 0, 0, 0, 0, 0), (.getfield 215, 9, 13, 0, 0), (.ifCond .gt 34, 45, 0, 0, 0), (.aload_n 0, 0, 0, 0, 0), (.getfield 224, 9, 15, 0, 0), (.ifCond .eq 28, 46, 0, 0, 0), (.iload_n 3, 3, 0, 0, 0), (.aload_n 0, 0, 0, 0, 0), (.getfield 227, 9, 16, 0, 0), (.if_icmp .gt 19, 45, 0, 0, 0), (.iload_n 3, 3, 0, 0, 0), (.aload_n 0, 0, 0, 0, 0), (.getfield 227, 9, 16, 0, 0), (.if_icmp .ne 12, 46, 0, 0, 0), (.iload_n 1, 1, 0, 0, 0), (.aload_n 0, 0, 0, 0, 0), (.getfield 224, 9, 15, 0, 0), (.if_icmp .lt 4, 46, 0, 0, 0)]
  | 45 => [(.return_, 0, 0, 0, 0)]
  | 46 => [(.aload_n 0, 0, 0, 0, 0), (.iload_n 1, 1, 0, 0, 0), (.putfield 224, 9, 15, 0, 0), (.aload_n 0, 0, 0, 0, 0), (.iload_n 3, 3, 0, 0, 0), (.putfield 227, 9, 16, 0, 0), (.return_, 0, 0, 0, 0)]
  | _ => []
set_option maxRecDepth 20000 in
theorem ck_168 : ∀ t, chkL 168 t (bk_168 t) = true := by
  intro t
  unfold bk_168
  split <;> first | decide +kernel | rfl
def cu_168 : Nat → Option (List Nat) := fun _ => none
/-- SluiceLogsModel.goesOn()V -/
def bk_169 : Nat → List Ins := fun t => match t with
  | 0 => [(.aload_n 0, 0, 0, 0, 0), (.getfield 218, 9, 11, 0, 0), (.sipush 400, 0, 0, 0, 0), (.if_icmp .ne 11, 18, 0, 0, 0), (.aload_n 0, 0, 0, 0, 0), (.iconst 2, 0, 0, 0, 0), (.invokevirtual 230, 167, 109, 1, 2), (.goto 13, 28, 0, 0, 0)]
  | 18 => [(.aload_n 0, 0, 0, 0, 0), (.dup, 0, 0, 0, 0), (.getfield 218, 9, 11, 0, 0), (.iconst 1, 0, 0, 0, 0), (.iadd, 0, 0, 0, 0), (.putfield 218, 9, 11, 0, 0)]
  | 28 => [(.return_, 0, 0, 0, 0)]
  | _ => []
set_option maxRecDepth 20000 in
theorem ck_169 : ∀ t, chkL 169 t (bk_169 t) = true := by
  intro t
  unfold bk_169
  split <;> first | decide +kernel | rfl
def cu_169 : Nat → Option (List Nat) := fun _ => none
/-- SluiceLogsModel.must(I)V -/
def bk_170 : Nat → List Ins := fun t => match t with
  | 0 => [(.aload_n 0, 0, 0, 0, 0), (.iload_n 1, 1, 0, 0, 0), (.invokevirtual 233, 166, 109, 1, 2), (.ifCond .eq 10, 15, 0, 0, 0), (.aload_n 0, 0, 0, 0, 0), (.invokevirtual 236, 169, 109, 0, 1), (.goto 8, 20, 0, 0, 0)]
  | 15 => [(.aload_n 0, 0, 0, 0, 0), (.iconst 1, 0, 0, 0, 0), (.invokevirtual 230, 167, 109, 1, 2)]
  | 20 => [(.return_, 0, 0, 0, 0)]
  | _ => []
set_option maxRecDepth 20000 in
theorem ck_170 : ∀ t, chkL 170 t (bk_170 t) = true := by
  intro t
  unfold bk_170
  split <;> first | decide +kernel | rfl
def cu_170 : Nat → Option (List Nat) := fun _ => none
/-- SluiceLogsModel.plain(I)V -/
def bk_171 : Nat → List Ins := fun t => match t with
  | 0 => [(.aload_n 0, 0, 0, 0, 0), (.getfield 46, 9, 23, 2, 0), (.iload_n 1, 1, 0, 0, 0), (.iconst 0, 0, 0, 0, 0), (.iastore, 0, 0, 0, 0), (.aload_n 0, 0, 0, 0, 0), (.getfield 49, 9, 24, 2, 0), (.iload_n 1, 1, 0, 0, 0), (.iconst 0, 0, 0, 0, 0), (.iastore, 0, 0, 0, 0), (.aload_n 0, 0, 0, 0, 0), (.getfield 61, 9, 28, 2, 0), (.iload_n 1, 1, 0, 0, 0), (.iconst 0, 0, 0, 0, 0), (.iastore, 0, 0, 0, 0), (.aload_n 0, 0, 0, 0, 0), (.getfield 73, 9, 32, 2, 0), (.iload_n 1, 1, 0, 0, 0), (.bipush 8, 0, 0, 0, 0), (.iastore, 0, 0, 0, 0), (.aload_n 0, 0, 0, 0, 0), (.getfield 76, 9, 33, 2, 0), (.iload_n 1, 1, 0, 0, 0), (.iconst 0, 0, 0, 0, 0), (.iastore, 0, 0, 0, 0), (.iconst 0, 0, 0, 0, 0), (.istore_n 2, 2, 0, 0, 0)]
  | 38 => [(.iload_n 2, 2, 0, 0, 0), (.iconst 4, 0, 0, 0, 0), (.if_icmp .ge 31, 71, 0, 0, 0), (.aload_n 0, 0, 0, 0, 0), (.getfield 79, 9, 34, 2, 0), (.iconst 4, 0, 0, 0, 0), (.iload_n 1, 1, 0, 0, 0), (.imul, 0, 0, 0, 0), (.iload_n 2, 2, 0, 0, 0), (.iadd, 0, 0, 0, 0), (.iconst 0, 0, 0, 0, 0), (.iastore, 0, 0, 0, 0), (.aload_n 0, 0, 0, 0, 0), (.getfield 82, 9, 35, 2, 0), (.iconst 4, 0, 0, 0, 0), (.iload_n 1, 1, 0, 0, 0), (.imul, 0, 0, 0, 0), (.iload_n 2, 2, 0, 0, 0), (.iadd, 0, 0, 0, 0), (.iconst 0, 0, 0, 0, 0), (.iastore, 0, 0, 0, 0), (.iinc 2 1, 2, 0, 0, 0), (.goto (-30), 38, 0, 0, 0)]
  | 71 => [(.return_, 0, 0, 0, 0)]
  | _ => []
set_option maxRecDepth 20000 in
theorem ck_171 : ∀ t, chkL 171 t (bk_171 t) = true := by
  intro t
  unfold bk_171
  split <;> first | decide +kernel | rfl
def cu_171 : Nat → Option (List Nat) := fun t => match t with | 38 => some [0, 1, 2] | _ => none
/-- SluiceLogsModel.read()I -/
def bk_172 : Nat → List Ins := fun t => match t with
  | 0 => [(.aload_n 0, 0, 0, 0, 0), (.aload_n 0, 0, 0, 0, 0), (.getfield 178, 9, 2, 0, 0), (.putfield 184, 9, 4, 0, 0), (.iconst 0, 0, 0, 0, 0), (.istore_n 1, 1, 0, 0, 0)]
  | 10 => [(.iload_n 1, 1, 0, 0, 0), (.aload_n 0, 0, 0, 0, 0), (.getfield 184, 9, 4, 0, 0), (.if_icmp .ge 21, 36, 0, 0, 0), (.aload_n 0, 0, 0, 0, 0), (.getfield 17, 9, 3, 2, 0), (.iload_n 1, 1, 0, 0, 0), (.aload_n 0, 0, 0, 0, 0), (.getfield 13, 9, 1, 2, 0), (.iload_n 1, 1, 0, 0, 0), (.baload, 0, 0, 0, 0), (.bastore, 0, 0, 0, 0), (.iinc 1 1, 1, 0, 0, 0), (.goto (-23), 10, 0, 0, 0)]
  | 36 => [(.aload_n 0, 0, 0, 0, 0), (.iconst 0, 0, 0, 0, 0), (.putfield 178, 9, 2, 0, 0), (.aload_n 0, 0, 0, 0, 0), (.invokevirtual 239, 164, 109, 0, 8), (.aload_n 0, 0, 0, 0, 0), (.iconst 0, 0, 0, 0, 0), (.putfield 218, 9, 11, 0, 0), (.aload_n 0, 0, 0, 0, 0), (.iconst 0, 0, 0, 0, 0), (.putfield 242, 9, 12, 0, 0), (.aload_n 0, 0, 0, 0, 0), (.iconst 0, 0, 0, 0, 0), (.putfield 215, 9, 13, 0, 0), (.aload_n 0, 0, 0, 0, 0), (.iconst 0, 0, 0, 0, 0), (.putfield 224, 9, 15, 0, 0), (.aload_n 0, 0, 0, 0, 0), (.iconst 1, 0, 0, 0, 0), (.aload_n 0, 0, 0, 0, 0), (.getfield 245, 9, 18, 0, 0), (.isub, 0, 0, 0, 0), (.putfield 248, 9, 19, 0, 0), (.aload_n 0, 0, 0, 0, 0), (.iconst 0, 0, 0, 0, 0), (.putfield 251, 9, 20, 0, 0), (.aload_n 0, 0, 0, 0, 0), (.aload_n 0, 0, 0, 0, 0), (.getfield 248, 9, 19, 0, 0), (.invokevirtual 164, 171, 109, 1, 3), (.aload_n 0, 0, 0, 0, 0), (.sipush 130, 0, 0, 0, 0), (.aload_n 0, 0, 0, 0, 0), (.getfield 248, 9, 19, 0, 0), (.imul, 0, 0, 0, 0), (.putfield 254, 9, 36, 0, 0), (.aload_n 0, 0, 0, 0, 0), (.sipush 420, 0, 0, 0, 0), (.aload_n 0, 0, 0, 0, 0), (.getfield 248, 9, 19, 0, 0), (.imul, 0, 0, 0, 0), (.putfield 257, 9, 42, 0, 0)]
  | 112 => [(.aload_n 0, 0, 0, 0, 0), (.getfield 215, 9, 13, 0, 0), (.ifCond .ne 18, 134, 0, 0, 0), (.aload_n 0, 0, 0, 0, 0), (.iconst 0, 0, 0, 0, 0), (.invokevirtual 233, 166, 109, 1, 2), (.ifCond .ne 10, 134, 0, 0, 0), (.aload_n 0, 0, 0, 0, 0), (.invokevirtual 260, 175, 109, 0, 2), (.goto (-19), 112, 0, 0, 0)]
  | 134 => [(.aload_n 0, 0, 0, 0, 0), (.aload_n 0, 0, 0, 0, 0), (.getfield 215, 9, 13, 0, 0), (.ifCond .le 10, 149, 0, 0, 0), (.aload_n 0, 0, 0, 0, 0), (.getfield 221, 9, 14, 0, 0), (.goto 18, 164, 0, 0, 0)]
  | 149 => [(.aload_n 0, 0, 0, 0, 0), (.getfield 224, 9, 15, 0, 0), (.ifCond .le 10, 163, 0, 0, 0), (.aload_n 0, 0, 0, 0, 0), (.getfield 227, 9, 16, 0, 0), (.goto 4, 164, 0, 0, 0)]
  | 163 => [(.iconst (-1), 0, 0, 0, 0)]
  | 164 => [(.putfield 37, 9, 17, 0, 0), (.aload_n 0, 0, 0, 0, 0), (.getfield 215, 9, 13, 0, 0), (.ifCond .le 8, 179, 0, 0, 0), (.aload_n 0, 0, 0, 0, 0), (.getfield 215, 9, 13, 0, 0), (.ireturn, 0, 0, 0, 0)]
  | 179 => [(.aload_n 0, 0, 0, 0, 0), (.getfield 224, 9, 15, 0, 0), (.ifCond .le 8, 191, 0, 0, 0), (.aload_n 0, 0, 0, 0, 0), (.getfield 224, 9, 15, 0, 0), (.ireturn, 0, 0, 0, 0)]
  | 191 => [(.aload_n 0, 0, 0, 0, 0), (.aload_n 0, 0, 0, 0, 0), (.getfield 248, 9, 19, 0, 0), (.putfield 245, 9, 18, 0, 0), (.aload_n 0, 0, 0, 0, 0), (.invokevirtual 172, 201, 109, 0, 2), (.aload_n 0, 0, 0, 0, 0), (.invokevirtual 175, 202, 109, 0, 2), (.aload_n 0, 0, 0, 0, 0), (.iconst 0, 0, 0, 0, 0), (.putfield 263, 9, 61, 0, 0), (.aload_n 0, 0, 0, 0, 0), (.iconst 0, 0, 0, 0, 0), (.putfield 266, 9, 67, 0, 0), (.iconst 0, 0, 0, 0, 0), (.istore_n 1, 1, 0, 0, 0)]
  | 219 => [(.iload_n 1, 1, 0, 0, 0), (.iconst 3, 0, 0, 0, 0), (.if_icmp .ge 16, 237, 0, 0, 0), (.aload_n 0, 0, 0, 0, 0), (.getfield 158, 9, 72, 2, 0), (.iload_n 1, 1, 0, 0, 0), (.iconst 0, 0, 0, 0, 0), (.bastore, 0, 0, 0, 0), (.iinc 1 1, 1, 0, 0, 0), (.goto (-15), 219, 0, 0, 0)]
  | 237 => [(.iconst 0, 0, 0, 0, 0), (.ireturn, 0, 0, 0, 0)]
  | _ => []
set_option maxRecDepth 20000 in
theorem ck_172 : ∀ t, chkL 172 t (bk_172 t) = true := by
  intro t
  unfold bk_172
  split <;> first | decide +kernel | rfl
def cu_172 : Nat → Option (List Nat) := fun t => match t with | 10 => some [0, 1] | 112 => some [0] | 219 => some [0, 1] | _ => none
/-- SluiceLogsModel.place()I -/
def bk_173 : Nat → List Ins := fun t => match t with
  | 0 => [(.aload_n 0, 0, 0, 0, 0), (.getfield 37, 9, 17, 0, 0), (.ireturn, 0, 0, 0, 0)]
  | _ => []
set_option maxRecDepth 20000 in
theorem ck_173 : ∀ t, chkL 173 t (bk_173 t) = true := by
  intro t
  unfold bk_173
  split <;> first | decide +kernel | rfl
def cu_173 : Nat → Option (List Nat) := fun _ => none
/-- SluiceLogsModel.roomFor(II)V -/
def bk_174 : Nat → List Ins := fun t => match t with
  | 0 => [(.iload_n 1, 1, 0, 0, 0), (.iload_n 2, 2, 0, 0, 0), (.if_icmp .ne 8, 10, 0, 0, 0), (.aload_n 0, 0, 0, 0, 0), (.iconst 2, 0, 0, 0, 0), (.invokevirtual 230, 167, 109, 1, 2)]
  | 10 => [(.aload_n 0, 0, 0, 0, 0), (.getfield 215, 9, 13, 0, 0), (.ifCond .ne 7, 21, 0, 0, 0), (.aload_n 0, 0, 0, 0, 0), (.invokevirtual 236, 169, 109, 0, 1)]
  | 21 => [(.return_, 0, 0, 0, 0)]
  | _ => []
set_option maxRecDepth 20000 in
theorem ck_174 : ∀ t, chkL 174 t (bk_174 t) = true := by
  intro t
  unfold bk_174
  split <;> first | decide +kernel | rfl
def cu_174 : Nat → Option (List Nat) := fun _ => none
/-- SluiceLogsModel.tellOne()V -/
def bk_175 : Nat → List Ins := fun t => match t with
  | 0 => [(.aload_n 0, 0, 0, 0, 0), (.getfield 20, 9, 5, 2, 0), (.aload_n 0, 0, 0, 0, 0), (.getfield 218, 9, 11, 0, 0), (.iaload, 0, 0, 0, 0), (.tableswitch 247 20 30 #[59, 121, 150, 179, 190, 247, 247, 247, 247, 247, 218], 0, 0, 0, 0)]
  | 68 => [(.aload_n 0, 0, 0, 0, 0), (.aload_n 0, 0, 0, 0, 0), (.getfield 46, 9, 23, 2, 0), (.aload_n 0, 0, 0, 0, 0), (.getfield 248, 9, 19, 0, 0), (.iaload, 0, 0, 0, 0), (.iconst 4, 0, 0, 0, 0), (.invokevirtual 269, 174, 109, 2, 3), (.aload_n 0, 0, 0, 0, 0), (.getfield 215, 9, 13, 0, 0), (.ifCond .le 4, 90, 0, 0, 0), (.return_, 0, 0, 0, 0)]
  | 90 => [(.aload_n 0, 0, 0, 0, 0), (.aload_n 0, 0, 0, 0, 0), (.invokevirtual 273, 176, 109, 0, 3), (.aload_n 0, 0, 0, 0, 0), (.getfield 46, 9, 23, 2, 0), (.aload_n 0, 0, 0, 0, 0), (.getfield 248, 9, 19, 0, 0), (.iaload, 0, 0, 0, 0), (.invokevirtual 277, 177, 109, 2, 3), (.aload_n 0, 0, 0, 0, 0), (.getfield 215, 9, 13, 0, 0), (.ifCond .ne 198, 309, 0, 0, 0), (.aload_n 0, 0, 0, 0, 0), (.getfield 46, 9, 23, 2, 0), (.aload_n 0, 0, 0, 0, 0), (.getfield 248, 9, 19, 0, 0), (.dup2, 0, 0, 0, 0), (.iaload, 0, 0, 0, 0), (.iconst 1, 0, 0, 0, 0), (.iadd, 0, 0, 0, 0), (.iastore, 0, 0, 0, 0), (.goto 182, 309, 0, 0, 0)]
  | 130 => [(.aload_n 0, 0, 0, 0, 0), (.aload_n 0, 0, 0, 0, 0), (.getfield 49, 9, 24, 2, 0), (.aload_n 0, 0, 0, 0, 0), (.getfield 248, 9, 19, 0, 0), (.iaload, 0, 0, 0, 0), (.bipush 6, 0, 0, 0, 0), (.invokevirtual 269, 174, 109, 2, 3), (.aload_n 0, 0, 0, 0, 0), (.getfield 215, 9, 13, 0, 0), (.ifCond .ne 160, 309, 0, 0, 0), (.aload_n 0, 0, 0, 0, 0), (.invokevirtual 280, 182, 109, 0, 3), (.goto 153, 309, 0, 0, 0)]
  | 159 => [(.aload_n 0, 0, 0, 0, 0), (.aload_n 0, 0, 0, 0, 0), (.getfield 61, 9, 28, 2, 0), (.aload_n 0, 0, 0, 0, 0), (.getfield 248, 9, 19, 0, 0), (.iaload, 0, 0, 0, 0), (.bipush 12, 0, 0, 0, 0), (.invokevirtual 269, 174, 109, 2, 3), (.aload_n 0, 0, 0, 0, 0), (.getfield 215, 9, 13, 0, 0), (.ifCond .ne 131, 309, 0, 0, 0), (.aload_n 0, 0, 0, 0, 0), (.invokevirtual 283, 183, 109, 0, 5), (.goto 124, 309, 0, 0, 0)]
  | 188 => [(.aload_n 0, 0, 0, 0, 0), (.invokevirtual 236, 169, 109, 0, 1), (.aload_n 0, 0, 0, 0, 0), (.invokevirtual 286, 184, 109, 0, 4), (.goto 113, 309, 0, 0, 0)]
  | 199 => [(.aload_n 0, 0, 0, 0, 0), (.invokevirtual 236, 169, 109, 0, 1), (.aload_n 0, 0, 0, 0, 0), (.getfield 73, 9, 32, 2, 0), (.aload_n 0, 0, 0, 0, 0), (.getfield 248, 9, 19, 0, 0), (.aload_n 0, 0, 0, 0, 0), (.iconst 1, 0, 0, 0, 0), (.bipush 9, 0, 0, 0, 0), (.invokevirtual 289, 181, 109, 2, 4), (.iastore, 0, 0, 0, 0), (.aload_n 0, 0, 0, 0, 0), (.iconst 4, 0, 0, 0, 0), (.invokevirtual 293, 170, 109, 1, 2), (.goto 85, 309, 0, 0, 0)]
  | 227 => [(.aload_n 0, 0, 0, 0, 0), (.invokevirtual 236, 169, 109, 0, 1), (.aload_n 0, 0, 0, 0, 0), (.getfield 76, 9, 33, 2, 0), (.aload_n 0, 0, 0, 0, 0), (.getfield 248, 9, 19, 0, 0), (.aload_n 0, 0, 0, 0, 0), (.iconst 0, 0, 0, 0, 0), (.sipush 9999, 0, 0, 0, 0), (.invokevirtual 289, 181, 109, 2, 4), (.iastore, 0, 0, 0, 0), (.aload_n 0, 0, 0, 0, 0), (.iconst 4, 0, 0, 0, 0), (.invokevirtual 293, 170, 109, 1, 2), (.goto 56, 309, 0, 0, 0)]
  | 256 => [(.aload_n 0, 0, 0, 0, 0), (.getfield 20, 9, 5, 2, 0), (.aload_n 0, 0, 0, 0, 0), (.getfield 218, 9, 11, 0, 0), (.iaload, 0, 0, 0, 0), (.bipush 26, 0, 0, 0, 0), (.isub, 0, 0, 0, 0), (.istore_n 1, 1, 0, 0, 0), (.iload_n 1, 1, 0, 0, 0), (.ifCond .lt 17, 287, 0, 0, 0), (.aload_n 0, 0, 0, 0, 0), (.getfield 20, 9, 5, 2, 0), (.aload_n 0, 0, 0, 0, 0), (.getfield 218, 9, 11, 0, 0), (.iaload, 0, 0, 0, 0), (.bipush 29, 0, 0, 0, 0), (.if_icmp .le 8, 292, 0, 0, 0)]
  | 287 => [(.aload_n 0, 0, 0, 0, 0), (.iconst 1, 0, 0, 0, 0), (.invokevirtual 230, 167, 109, 1, 2)]
  | 292 => [(.aload_n 0, 0, 0, 0, 0), (.getfield 215, 9, 13, 0, 0), (.ifCond .le 4, 300, 0, 0, 0), (.return_, 0, 0, 0, 0)]
  | 300 => [(.aload_n 0, 0, 0, 0, 0), (.invokevirtual 236, 169, 109, 0, 1), (.aload_n 0, 0, 0, 0, 0), (.iload_n 1, 1, 0, 0, 0), (.invokevirtual 296, 185, 109, 1, 4)]
  | 309 => [(.return_, 0, 0, 0, 0)]
  | _ => []
set_option maxRecDepth 20000 in
theorem ck_175 : ∀ t, chkL 175 t (bk_175 t) = true := by
  intro t
  unfold bk_175
  split <;> first | decide +kernel | rfl
def cu_175 : Nat → Option (List Nat) := fun _ => none
/-- SluiceLogsModel.named()I -/
def bk_176 : Nat → List Ins := fun t => match t with
  | 0 => [(.aload_n 0, 0, 0, 0, 0), (.getfield 218, 9, 11, 0, 0), (.istore_n 1, 1, 0, 0, 0), (.aload_n 0, 0, 0, 0, 0), (.iconst 1, 0, 0, 0, 0), (.invokevirtual 293, 170, 109, 1, 2), (.iconst 0, 0, 0, 0, 0), (.istore_n 2, 2, 0, 0, 0)]
  | 12 => [(.iload_n 2, 2, 0, 0, 0), (.aload_n 0, 0, 0, 0, 0), (.getfield 251, 9, 20, 0, 0), (.if_icmp .ge 38, 55, 0, 0, 0), (.aload_n 0, 0, 0, 0, 0), (.getfield 215, 9, 13, 0, 0), (.ifCond .ne 31, 55, 0, 0, 0), (.aload_n 0, 0, 0, 0, 0), (.getfield 40, 9, 21, 2, 0), (.iload_n 2, 2, 0, 0, 0), (.laload, 0, 0, 0, 0), (.aload_n 0, 0, 0, 0, 0), (.getfield 30, 9, 8, 2, 0), (.iload_n 1, 1, 0, 0, 0), (.laload, 0, 0, 0, 0), (.lcmp, 0, 0, 0, 0), (.ifCond .ne 9, 49, 0, 0, 0), (.aload_n 0, 0, 0, 0, 0), (.iconst 3, 0, 0, 0, 0), (.iload_n 1, 1, 0, 0, 0), (.invokevirtual 299, 168, 109, 2, 4)]
  | 49 => [(.iinc 2 1, 2, 0, 0, 0), (.goto (-40), 12, 0, 0, 0)]
  | 55 => [(.iload_n 1, 1, 0, 0, 0), (.ireturn, 0, 0, 0, 0)]
  | _ => []
set_option maxRecDepth 20000 in
theorem ck_176 : ∀ t, chkL 176 t (bk_176 t) = true := by
  intro t
  unfold bk_176
  split <;> first | decide +kernel | rfl
def cu_176 : Nat → Option (List Nat) := fun t => match t with | 12 => some [0, 1, 2] | _ => none
/-- SluiceLogsModel.endsName(II)V -/
def bk_177 : Nat → List Ins := fun t => match t with
  | 0 => [(.aload_n 0, 0, 0, 0, 0), (.iconst 4, 0, 0, 0, 0), (.invokevirtual 293, 170, 109, 1, 2), (.aload_n 0, 0, 0, 0, 0), (.getfield 215, 9, 13, 0, 0), (.ifCond .le 4, 13, 0, 0, 0), (.return_, 0, 0, 0, 0)]
  | 13 => [(.aload_n 0, 0, 0, 0, 0), (.getfield 40, 9, 21, 2, 0), (.aload_n 0, 0, 0, 0, 0), (.getfield 251, 9, 20, 0, 0), (.aload_n 0, 0, 0, 0, 0), (.getfield 30, 9, 8, 2, 0), (.iload_n 1, 1, 0, 0, 0), (.laload, 0, 0, 0, 0), (.lastore, 0, 0, 0, 0), (.aload_n 0, 0, 0, 0, 0), (.getfield 43, 9, 22, 2, 0), (.aload_n 0, 0, 0, 0, 0), (.getfield 251, 9, 20, 0, 0), (.iload_n 2, 2, 0, 0, 0), (.iastore, 0, 0, 0, 0), (.aload_n 0, 0, 0, 0, 0), (.dup, 0, 0, 0, 0), (.getfield 251, 9, 20, 0, 0), (.iconst 1, 0, 0, 0, 0), (.iadd, 0, 0, 0, 0), (.putfield 251, 9, 20, 0, 0), (.return_, 0, 0, 0, 0)]
  | _ => []
set_option maxRecDepth 20000 in
theorem ck_177 : ∀ t, chkL 177 t (bk_177 t) = true := by
  intro t
  unfold bk_177
  split <;> first | decide +kernel | rfl
def cu_177 : Nat → Option (List Nat) := fun _ => none
/-- SluiceLogsModel.foundOf(II)I -/
def bk_178 : Nat → List Ins := fun t => match t with
  | 0 => [(.iconst 0, 0, 0, 0, 0), (.istore_n 3, 3, 0, 0, 0)]
  | 2 => [(.iload_n 3, 3, 0, 0, 0), (.aload_n 0, 0, 0, 0, 0), (.getfield 251, 9, 20, 0, 0), (.if_icmp .ge 57, 64, 0, 0, 0), (.aload_n 0, 0, 0, 0, 0), (.getfield 40, 9, 21, 2, 0), (.iload_n 3, 3, 0, 0, 0), (.laload, 0, 0, 0, 0), (.aload_n 0, 0, 0, 0, 0), (.getfield 30, 9, 8, 2, 0), (.iload_n 1, 1, 0, 0, 0), (.laload, 0, 0, 0, 0), (.lcmp, 0, 0, 0, 0), (.ifCond .ne 35, 58, 0, 0, 0), (.aload_n 0, 0, 0, 0, 0), (.getfield 43, 9, 22, 2, 0), (.iload_n 3, 3, 0, 0, 0), (.iaload, 0, 0, 0, 0), (.iload_n 2, 2, 0, 0, 0), (.if_icmp .lt 25, 58, 0, 0, 0), (.aload_n 0, 0, 0, 0, 0), (.getfield 43, 9, 22, 2, 0), (.iload_n 3, 3, 0, 0, 0), (.iaload, 0, 0, 0, 0), (.iload_n 2, 2, 0, 0, 0), (.bipush 10, 0, 0, 0, 0), (.iadd, 0, 0, 0, 0), (.if_icmp .ge 12, 58, 0, 0, 0), (.aload_n 0, 0, 0, 0, 0), (.getfield 43, 9, 22, 2, 0), (.iload_n 3, 3, 0, 0, 0), (.iaload, 0, 0, 0, 0), (.iload_n 2, 2, 0, 0, 0), (.isub, 0, 0, 0, 0), (.ireturn, 0, 0, 0, 0)]
  | 58 => [(.iinc 3 1, 3, 0, 0, 0), (.goto (-59), 2, 0, 0, 0)]
  | 64 => [(.iconst (-1), 0, 0, 0, 0), (.ireturn, 0, 0, 0, 0)]
  | _ => []
set_option maxRecDepth 20000 in
theorem ck_178 : ∀ t, chkL 178 t (bk_178 t) = true := by
  intro t
  unfold bk_178
  split <;> first | decide +kernel | rfl
def cu_178 : Nat → Option (List Nat) := fun t => match t with | 2 => some [0, 1, 2, 3] | _ => none
/-- SluiceLogsModel.known(I)I -/
def bk_179 : Nat → List Ins := fun t => match t with
  | 0 => [(.aload_n 0, 0, 0, 0, 0), (.getfield 218, 9, 11, 0, 0), (.istore_n 2, 2, 0, 0, 0), (.aload_n 0, 0, 0, 0, 0), (.iconst 1, 0, 0, 0, 0), (.invokevirtual 293, 170, 109, 1, 2), (.aload_n 0, 0, 0, 0, 0), (.getfield 215, 9, 13, 0, 0), (.ifCond .le 5, 19, 0, 0, 0), (.iconst (-1), 0, 0, 0, 0), (.ireturn, 0, 0, 0, 0)]
  | 19 => [(.aload_n 0, 0, 0, 0, 0), (.iload_n 2, 2, 0, 0, 0), (.iload_n 1, 1, 0, 0, 0), (.invokevirtual 302, 178, 109, 2, 4), (.istore_n 3, 3, 0, 0, 0), (.iload_n 3, 3, 0, 0, 0), (.ifCond .ge 9, 36, 0, 0, 0), (.aload_n 0, 0, 0, 0, 0), (.iconst 4, 0, 0, 0, 0), (.iload_n 2, 2, 0, 0, 0), (.invokevirtual 299, 168, 109, 2, 4)]
  | 36 => [(.iload_n 3, 3, 0, 0, 0), (.ireturn, 0, 0, 0, 0)]
  | _ => []
set_option maxRecDepth 20000 in
theorem ck_179 : ∀ t, chkL 179 t (bk_179 t) = true := by
  intro t
  unfold bk_179
  split <;> first | decide +kernel | rfl
def cu_179 : Nat → Option (List Nat) := fun _ => none
/-- SluiceLogsModel.toTold()I -/
def bk_180 : Nat → List Ins := fun t => match t with
  | 0 => [(.aload_n 0, 0, 0, 0, 0), (.getfield 218, 9, 11, 0, 0), (.istore_n 1, 1, 0, 0, 0), (.aload_n 0, 0, 0, 0, 0), (.bipush 25, 0, 0, 0, 0), (.invokevirtual 233, 166, 109, 1, 2), (.ifCond .eq 10, 21, 0, 0, 0), (.aload_n 0, 0, 0, 0, 0), (.invokevirtual 236, 169, 109, 0, 1), (.bipush 20, 0, 0, 0, 0), (.ireturn, 0, 0, 0, 0)]
  | 21 => [(.aload_n 0, 0, 0, 0, 0), (.iconst 1, 0, 0, 0, 0), (.invokevirtual 293, 170, 109, 1, 2), (.aload_n 0, 0, 0, 0, 0), (.getfield 215, 9, 13, 0, 0), (.ifCond .le 5, 35, 0, 0, 0), (.iconst (-1), 0, 0, 0, 0), (.ireturn, 0, 0, 0, 0)]
  | 35 => [(.aload_n 0, 0, 0, 0, 0), (.iload_n 1, 1, 0, 0, 0), (.iconst 0, 0, 0, 0, 0), (.invokevirtual 302, 178, 109, 2, 4), (.istore_n 2, 2, 0, 0, 0), (.aload_n 0, 0, 0, 0, 0), (.iload_n 1, 1, 0, 0, 0), (.bipush 10, 0, 0, 0, 0), (.invokevirtual 302, 178, 109, 2, 4), (.istore_n 3, 3, 0, 0, 0), (.iload_n 2, 2, 0, 0, 0), (.ifCond .ge 13, 64, 0, 0, 0), (.iload_n 3, 3, 0, 0, 0), (.ifCond .ge 9, 64, 0, 0, 0), (.aload_n 0, 0, 0, 0, 0), (.iconst 4, 0, 0, 0, 0), (.iload_n 1, 1, 0, 0, 0), (.invokevirtual 299, 168, 109, 2, 4)]
  | 64 => [(.iload_n 2, 2, 0, 0, 0), (.ifCond .lt 7, 72, 0, 0, 0), (.iload_n 2, 2, 0, 0, 0), (.goto 7, 76, 0, 0, 0)]
  | 72 => [(.bipush 10, 0, 0, 0, 0), (.iload_n 3, 3, 0, 0, 0), (.iadd, 0, 0, 0, 0)]
  | 76 => [(.ireturn, 0, 0, 0, 0)]
  | _ => []
set_option maxRecDepth 20000 in
theorem ck_180 : ∀ t, chkL 180 t (bk_180 t) = true := by
  intro t
  unfold bk_180
  split <;> first | decide +kernel | rfl
def cu_180 : Nat → Option (List Nat) := fun _ => none
/-- SluiceLogsModel.bounded(II)I -/
def bk_181 : Nat → List Ins := fun t => match t with
  | 0 => [(.aload_n 0, 0, 0, 0, 0), (.getfield 215, 9, 13, 0, 0), (.ifCond .gt 11, 15, 0, 0, 0), (.aload_n 0, 0, 0, 0, 0), (.iconst 2, 0, 0, 0, 0), (.invokevirtual 233, 166, 109, 1, 2), (.ifCond .ne 10, 22, 0, 0, 0)]
  | 15 => [(.aload_n 0, 0, 0, 0, 0), (.iconst 1, 0, 0, 0, 0), (.invokevirtual 230, 167, 109, 1, 2), (.iload_n 1, 1, 0, 0, 0), (.ireturn, 0, 0, 0, 0)]
  | 22 => [(.aload_n 0, 0, 0, 0, 0), (.getfield 27, 9, 7, 2, 0), (.aload_n 0, 0, 0, 0, 0), (.getfield 218, 9, 11, 0, 0), (.iaload, 0, 0, 0, 0), (.istore_n 3, 3, 0, 0, 0), (.iload_n 3, 3, 0, 0, 0), (.iload_n 1, 1, 0, 0, 0), (.if_icmp .lt 8, 42, 0, 0, 0), (.iload_n 3, 3, 0, 0, 0), (.iload_n 2, 2, 0, 0, 0), (.if_icmp .le 12, 51, 0, 0, 0)]
  | 42 => [(.aload_n 0, 0, 0, 0, 0), (.iconst 5, 0, 0, 0, 0), (.aload_n 0, 0, 0, 0, 0), (.getfield 218, 9, 11, 0, 0), (.invokevirtual 299, 168, 109, 2, 4)]
  | 51 => [(.aload_n 0, 0, 0, 0, 0), (.invokevirtual 236, 169, 109, 0, 1), (.iload_n 3, 3, 0, 0, 0), (.ireturn, 0, 0, 0, 0)]
  | _ => []
set_option maxRecDepth 20000 in
theorem ck_181 : ∀ t, chkL 181 t (bk_181 t) = true := by
  intro t
  unfold bk_181
  split <;> first | decide +kernel | rfl
def cu_181 : Nat → Option (List Nat) := fun _ => none
/-- SluiceLogsModel.tellField()V -/
def bk_182 : Nat → List Ins := fun t => match t with
  | 0 => [(.bipush 6, 0, 0, 0, 0), (.aload_n 0, 0, 0, 0, 0), (.getfield 248, 9, 19, 0, 0), (.imul, 0, 0, 0, 0), (.aload_n 0, 0, 0, 0, 0), (.getfield 49, 9, 24, 2, 0), (.aload_n 0, 0, 0, 0, 0), (.getfield 248, 9, 19, 0, 0), (.iaload, 0, 0, 0, 0), (.iadd, 0, 0, 0, 0), (.istore_n 1, 1, 0, 0, 0), (.aload_n 0, 0, 0, 0, 0), (.invokevirtual 273, 176, 109, 0, 3), (.istore_n 2, 2, 0, 0, 0), (.aload_n 0, 0, 0, 0, 0), (.getfield 52, 9, 25, 2, 0), (.iload_n 1, 1, 0, 0, 0), (.aload_n 0, 0, 0, 0, 0), (.iconst 1, 0, 0, 0, 0), (.bipush 99, 0, 0, 0, 0), (.invokevirtual 289, 181, 109, 2, 4), (.iastore, 0, 0, 0, 0), (.aload_n 0, 0, 0, 0, 0), (.getfield 55, 9, 26, 2, 0), (.iload_n 1, 1, 0, 0, 0), (.bipush (-2), 0, 0, 0, 0), (.iastore, 0, 0, 0, 0), (.aload_n 0, 0, 0, 0, 0), (.getfield 58, 9, 27, 2, 0), (.iload_n 1, 1, 0, 0, 0), (.iconst 0, 0, 0, 0, 0), (.iastore, 0, 0, 0, 0), (.aload_n 0, 0, 0, 0, 0), (.iload_n 2, 2, 0, 0, 0), (.bipush 10, 0, 0, 0, 0), (.aload_n 0, 0, 0, 0, 0), (.getfield 49, 9, 24, 2, 0), (.aload_n 0, 0, 0, 0, 0), (.getfield 248, 9, 19, 0, 0), (.iaload, 0, 0, 0, 0), (.iadd, 0, 0, 0, 0), (.invokevirtual 277, 177, 109, 2, 3), (.aload_n 0, 0, 0, 0, 0), (.getfield 215, 9, 13, 0, 0), (.ifCond .ne 16, 88, 0, 0, 0), (.aload_n 0, 0, 0, 0, 0), (.getfield 49, 9, 24, 2, 0), (.aload_n 0, 0, 0, 0, 0), (.getfield 248, 9, 19, 0, 0), (.dup2, 0, 0, 0, 0), (.iaload, 0, 0, 0, 0), (.iconst 1, 0, 0, 0, 0), (.iadd, 0, 0, 0, 0), (.iastore, 0, 0, 0, 0)]
  | 88 => [(.return_, 0, 0, 0, 0)]
  | _ => []
set_option maxRecDepth 20000 in
theorem ck_182 : ∀ t, chkL 182 t (bk_182 t) = true := by
  intro t
  unfold bk_182
  split <;> first | decide +kernel | rfl
def cu_182 : Nat → Option (List Nat) := fun _ => none
/-- SluiceLogsModel.tellNotch()V -/
def bk_183 : Nat → List Ins := fun t => match t with
  | 0 => [(.bipush 12, 0, 0, 0, 0), (.aload_n 0, 0, 0, 0, 0), (.getfield 248, 9, 19, 0, 0), (.imul, 0, 0, 0, 0), (.aload_n 0, 0, 0, 0, 0), (.getfield 61, 9, 28, 2, 0), (.aload_n 0, 0, 0, 0, 0), (.getfield 248, 9, 19, 0, 0), (.iaload, 0, 0, 0, 0), (.iadd, 0, 0, 0, 0), (.istore_n 1, 1, 0, 0, 0), (.aload_n 0, 0, 0, 0, 0), (.getfield 218, 9, 11, 0, 0), (.istore_n 2, 2, 0, 0, 0), (.aload_n 0, 0, 0, 0, 0), (.getfield 64, 9, 29, 2, 0), (.iload_n 1, 1, 0, 0, 0), (.aload_n 0, 0, 0, 0, 0), (.iconst 0, 0, 0, 0, 0), (.invokevirtual 305, 179, 109, 1, 4), (.iastore, 0, 0, 0, 0), (.iconst 0, 0, 0, 0, 0), (.istore_n 3, 3, 0, 0, 0), (.bipush 12, 0, 0, 0, 0), (.aload_n 0, 0, 0, 0, 0), (.getfield 248, 9, 19, 0, 0), (.imul, 0, 0, 0, 0), (.istore 4, 4, 0, 0, 0)]
  | 45 => [(.iload 4, 4, 0, 0, 0), (.iload_n 1, 1, 0, 0, 0), (.if_icmp .ge 35, 83, 0, 0, 0), (.aload_n 0, 0, 0, 0, 0), (.getfield 215, 9, 13, 0, 0), (.ifCond .ne 28, 83, 0, 0, 0), (.aload_n 0, 0, 0, 0, 0), (.getfield 64, 9, 29, 2, 0), (.iload 4, 4, 0, 0, 0), (.iaload, 0, 0, 0, 0), (.aload_n 0, 0, 0, 0, 0), (.getfield 64, 9, 29, 2, 0), (.iload_n 1, 1, 0, 0, 0), (.iaload, 0, 0, 0, 0), (.if_icmp .ne 6, 77, 0, 0, 0), (.iinc 3 1, 3, 0, 0, 0)]
  | 77 => [(.iinc 4 1, 4, 0, 0, 0), (.goto (-35), 45, 0, 0, 0)]
  | 83 => [(.aload_n 0, 0, 0, 0, 0), (.getfield 215, 9, 13, 0, 0), (.ifCond .ne 24, 111, 0, 0, 0), (.aload_n 0, 0, 0, 0, 0), (.getfield 64, 9, 29, 2, 0), (.iload_n 1, 1, 0, 0, 0), (.iaload, 0, 0, 0, 0), (.ifCond .lt 15, 111, 0, 0, 0), (.iload_n 3, 3, 0, 0, 0), (.iconst 3, 0, 0, 0, 0), (.if_icmp .lt 10, 111, 0, 0, 0), (.aload_n 0, 0, 0, 0, 0), (.bipush 6, 0, 0, 0, 0), (.iload_n 2, 2, 0, 0, 0), (.invokevirtual 299, 168, 109, 2, 4)]
  | 111 => [(.aload_n 0, 0, 0, 0, 0), (.getfield 67, 9, 30, 2, 0), (.iload_n 1, 1, 0, 0, 0), (.aload_n 0, 0, 0, 0, 0), (.invokevirtual 308, 180, 109, 0, 4), (.iastore, 0, 0, 0, 0), (.aload_n 0, 0, 0, 0, 0), (.getfield 70, 9, 31, 2, 0), (.iload_n 1, 1, 0, 0, 0), (.aload_n 0, 0, 0, 0, 0), (.iconst 0, 0, 0, 0, 0), (.iconst 3, 0, 0, 0, 0), (.invokevirtual 289, 181, 109, 2, 4), (.iastore, 0, 0, 0, 0), (.aload_n 0, 0, 0, 0, 0), (.iconst 4, 0, 0, 0, 0), (.invokevirtual 293, 170, 109, 1, 2), (.aload_n 0, 0, 0, 0, 0), (.getfield 215, 9, 13, 0, 0), (.ifCond .ne 16, 158, 0, 0, 0), (.aload_n 0, 0, 0, 0, 0), (.getfield 61, 9, 28, 2, 0), (.aload_n 0, 0, 0, 0, 0), (.getfield 248, 9, 19, 0, 0), (.dup2, 0, 0, 0, 0), (.iaload, 0, 0, 0, 0), (.iconst 1, 0, 0, 0, 0), (.iadd, 0, 0, 0, 0), (.iastore, 0, 0, 0, 0)]
  | 158 => [(.return_, 0, 0, 0, 0)]
  | _ => []
set_option maxRecDepth 20000 in
theorem ck_183 : ∀ t, chkL 183 t (bk_183 t) = true := by
  intro t
  unfold bk_183
  split <;> first | decide +kernel | rfl
def cu_183 : Nat → Option (List Nat) := fun t => match t with | 45 => some [0, 1, 2, 3, 4] | _ => none
/-- SluiceLogsModel.tellDrain()V -/
def bk_184 : Nat → List Ins := fun t => match t with
  | 0 => [(.aload_n 0, 0, 0, 0, 0), (.bipush 10, 0, 0, 0, 0), (.invokevirtual 305, 179, 109, 1, 4), (.istore_n 1, 1, 0, 0, 0), (.aload_n 0, 0, 0, 0, 0), (.iconst 0, 0, 0, 0, 0), (.invokevirtual 305, 179, 109, 1, 4), (.istore_n 2, 2, 0, 0, 0), (.aload_n 0, 0, 0, 0, 0), (.iconst 0, 0, 0, 0, 0), (.iconst 3, 0, 0, 0, 0), (.invokevirtual 289, 181, 109, 2, 4), (.istore_n 3, 3, 0, 0, 0), (.aload_n 0, 0, 0, 0, 0), (.iconst 4, 0, 0, 0, 0), (.invokevirtual 293, 170, 109, 1, 2), (.aload_n 0, 0, 0, 0, 0), (.getfield 215, 9, 13, 0, 0), (.ifCond .gt 7, 36, 0, 0, 0), (.iload_n 1, 1, 0, 0, 0), (.ifCond .ge 4, 37, 0, 0, 0)]
  | 36 => [(.return_, 0, 0, 0, 0)]
  | 37 => [(.aload_n 0, 0, 0, 0, 0), (.getfield 55, 9, 26, 2, 0), (.bipush 6, 0, 0, 0, 0), (.aload_n 0, 0, 0, 0, 0), (.getfield 248, 9, 19, 0, 0), (.imul, 0, 0, 0, 0), (.iload_n 1, 1, 0, 0, 0), (.iadd, 0, 0, 0, 0), (.iload_n 2, 2, 0, 0, 0), (.iastore, 0, 0, 0, 0), (.aload_n 0, 0, 0, 0, 0), (.getfield 58, 9, 27, 2, 0), (.bipush 6, 0, 0, 0, 0), (.aload_n 0, 0, 0, 0, 0), (.getfield 248, 9, 19, 0, 0), (.imul, 0, 0, 0, 0), (.iload_n 1, 1, 0, 0, 0), (.iadd, 0, 0, 0, 0), (.iload_n 3, 3, 0, 0, 0), (.iastore, 0, 0, 0, 0), (.return_, 0, 0, 0, 0)]
  | _ => []
set_option maxRecDepth 20000 in
theorem ck_184 : ∀ t, chkL 184 t (bk_184 t) = true := by
  intro t
  unfold bk_184
  split <;> first | decide +kernel | rfl
def cu_184 : Nat → Option (List Nat) := fun _ => none
/-- SluiceLogsModel.tellLaw(I)V -/
def bk_185 : Nat → List Ins := fun t => match t with
  | 0 => [(.aload_n 0, 0, 0, 0, 0), (.iconst 5, 0, 0, 0, 0), (.invokevirtual 293, 170, 109, 1, 2), (.aload_n 0, 0, 0, 0, 0), (.getfield 254, 9, 36, 0, 0), (.istore_n 2, 2, 0, 0, 0), (.iconst 0, 0, 0, 0, 0), (.istore_n 3, 3, 0, 0, 0)]
  | 12 => [(.aload_n 0, 0, 0, 0, 0), (.getfield 215, 9, 13, 0, 0), (.ifCond .ne 113, 129, 0, 0, 0), (.aload_n 0, 0, 0, 0, 0), (.bipush 31, 0, 0, 0, 0), (.invokevirtual 233, 166, 109, 1, 2), (.ifCond .eq 104, 129, 0, 0, 0), (.iload_n 3, 3, 0, 0, 0), (.iconst 4, 0, 0, 0, 0), (.if_icmp .ne 8, 38, 0, 0, 0), (.aload_n 0, 0, 0, 0, 0), (.iconst 2, 0, 0, 0, 0), (.invokevirtual 230, 167, 109, 1, 2)]
  | 38 => [(.aload_n 0, 0, 0, 0, 0), (.getfield 215, 9, 13, 0, 0), (.ifCond .le 4, 46, 0, 0, 0), (.return_, 0, 0, 0, 0)]
  | 46 => [(.iinc 3 1, 3, 0, 0, 0), (.aload_n 0, 0, 0, 0, 0), (.invokevirtual 236, 169, 109, 0, 1), (.aload_n 0, 0, 0, 0, 0), (.getfield 85, 9, 37, 2, 0), (.aload_n 0, 0, 0, 0, 0), (.getfield 254, 9, 36, 0, 0), (.iconst 1, 0, 0, 0, 0), (.bastore, 0, 0, 0, 0), (.aload_n 0, 0, 0, 0, 0), (.getfield 89, 9, 38, 2, 0), (.aload_n 0, 0, 0, 0, 0), (.getfield 254, 9, 36, 0, 0), (.aload_n 0, 0, 0, 0, 0), (.getfield 257, 9, 42, 0, 0), (.iastore, 0, 0, 0, 0), (.aload_n 0, 0, 0, 0, 0), (.invokevirtual 311, 189, 109, 0, 3), (.aload_n 0, 0, 0, 0, 0), (.bipush 13, 0, 0, 0, 0), (.invokevirtual 293, 170, 109, 1, 2), (.aload_n 0, 0, 0, 0, 0), (.getfield 92, 9, 39, 2, 0), (.aload_n 0, 0, 0, 0, 0), (.getfield 254, 9, 36, 0, 0), (.aload_n 0, 0, 0, 0, 0), (.getfield 257, 9, 42, 0, 0), (.iastore, 0, 0, 0, 0), (.aload_n 0, 0, 0, 0, 0), (.getfield 215, 9, 13, 0, 0), (.ifCond .ne 7, 110, 0, 0, 0), (.aload_n 0, 0, 0, 0, 0), (.invokevirtual 311, 189, 109, 0, 3)]
  | 110 => [(.aload_n 0, 0, 0, 0, 0), (.bipush 32, 0, 0, 0, 0), (.invokevirtual 293, 170, 109, 1, 2), (.aload_n 0, 0, 0, 0, 0), (.invokevirtual 314, 186, 109, 0, 1), (.aload_n 0, 0, 0, 0, 0), (.bipush 33, 0, 0, 0, 0), (.invokevirtual 293, 170, 109, 1, 2), (.goto (-114), 12, 0, 0, 0)]
  | 129 => [(.aload_n 0, 0, 0, 0, 0), (.getfield 85, 9, 37, 2, 0), (.aload_n 0, 0, 0, 0, 0), (.getfield 254, 9, 36, 0, 0), (.iconst 0, 0, 0, 0, 0), (.bastore, 0, 0, 0, 0), (.aload_n 0, 0, 0, 0, 0), (.invokevirtual 314, 186, 109, 0, 1), (.aload_n 0, 0, 0, 0, 0), (.iconst 4, 0, 0, 0, 0), (.invokevirtual 293, 170, 109, 1, 2), (.aload_n 0, 0, 0, 0, 0), (.getfield 215, 9, 13, 0, 0), (.ifCond .le 4, 156, 0, 0, 0), (.return_, 0, 0, 0, 0)]
  | 156 => [(.aload_n 0, 0, 0, 0, 0), (.getfield 79, 9, 34, 2, 0), (.iconst 4, 0, 0, 0, 0), (.aload_n 0, 0, 0, 0, 0), (.getfield 248, 9, 19, 0, 0), (.imul, 0, 0, 0, 0), (.iload_n 1, 1, 0, 0, 0), (.iadd, 0, 0, 0, 0), (.iload_n 2, 2, 0, 0, 0), (.iastore, 0, 0, 0, 0), (.aload_n 0, 0, 0, 0, 0), (.getfield 82, 9, 35, 2, 0), (.iconst 4, 0, 0, 0, 0), (.aload_n 0, 0, 0, 0, 0), (.getfield 248, 9, 19, 0, 0), (.imul, 0, 0, 0, 0), (.iload_n 1, 1, 0, 0, 0), (.iadd, 0, 0, 0, 0), (.aload_n 0, 0, 0, 0, 0), (.getfield 254, 9, 36, 0, 0), (.iastore, 0, 0, 0, 0), (.return_, 0, 0, 0, 0)]
  | _ => []
set_option maxRecDepth 20000 in
theorem ck_185 : ∀ t, chkL 185 t (bk_185 t) = true := by
  intro t
  unfold bk_185
  split <;> first | decide +kernel | rfl
def cu_185 : Nat → Option (List Nat) := fun t => match t with | 12 => some [0, 1, 2, 3] | _ => none
/-- SluiceLogsModel.term()V -/
def bk_186 : Nat → List Ins := fun t => match t with
  | 0 => [(.aload_n 0, 0, 0, 0, 0), (.getfield 95, 9, 40, 2, 0), (.aload_n 0, 0, 0, 0, 0), (.getfield 254, 9, 36, 0, 0), (.aload_n 0, 0, 0, 0, 0), (.getfield 257, 9, 42, 0, 0), (.iastore, 0, 0, 0, 0), (.aload_n 0, 0, 0, 0, 0), (.getfield 215, 9, 13, 0, 0), (.ifCond .ne 7, 24, 0, 0, 0), (.aload_n 0, 0, 0, 0, 0), (.invokevirtual 311, 189, 109, 0, 3)]
  | 24 => [(.aload_n 0, 0, 0, 0, 0), (.getfield 98, 9, 41, 2, 0), (.aload_n 0, 0, 0, 0, 0), (.getfield 254, 9, 36, 0, 0), (.aload_n 0, 0, 0, 0, 0), (.getfield 257, 9, 42, 0, 0), (.iastore, 0, 0, 0, 0), (.aload_n 0, 0, 0, 0, 0), (.dup, 0, 0, 0, 0), (.getfield 254, 9, 36, 0, 0), (.iconst 1, 0, 0, 0, 0), (.iadd, 0, 0, 0, 0), (.putfield 254, 9, 36, 0, 0), (.return_, 0, 0, 0, 0)]
  | _ => []
set_option maxRecDepth 20000 in
theorem ck_186 : ∀ t, chkL 186 t (bk_186 t) = true := by
  intro t
  unfold bk_186
  split <;> first | decide +kernel | rfl
def cu_186 : Nat → Option (List Nat) := fun _ => none
/-- SluiceLogsModel.emit(II)V -/
def bk_187 : Nat → List Ins := fun t => match t with
  | 0 => [(.aload_n 0, 0, 0, 0, 0), (.getfield 101, 9, 43, 2, 0), (.aload_n 0, 0, 0, 0, 0), (.getfield 257, 9, 42, 0, 0), (.iload_n 1, 1, 0, 0, 0), (.iastore, 0, 0, 0, 0), (.aload_n 0, 0, 0, 0, 0), (.getfield 104, 9, 44, 2, 0), (.aload_n 0, 0, 0, 0, 0), (.getfield 257, 9, 42, 0, 0), (.iload_n 2, 2, 0, 0, 0), (.iastore, 0, 0, 0, 0), (.aload_n 0, 0, 0, 0, 0), (.dup, 0, 0, 0, 0), (.getfield 257, 9, 42, 0, 0), (.iconst 1, 0, 0, 0, 0), (.iadd, 0, 0, 0, 0), (.putfield 257, 9, 42, 0, 0), (.return_, 0, 0, 0, 0)]
  | _ => []
set_option maxRecDepth 20000 in
theorem ck_187 : ∀ t, chkL 187 t (bk_187 t) = true := by
  intro t
  unfold bk_187
  split <;> first | decide +kernel | rfl
def cu_187 : Nat → Option (List Nat) := fun _ => none
/-- SluiceLogsModel.comesOut(Z)V -/
def bk_188 : Nat → List Ins := fun t => match t with
  | 0 => [(.aload_n 0, 0, 0, 0, 0), (.getfield 317, 9, 46, 0, 0), (.ifCond .le 87, 91, 0, 0, 0), (.aload_n 0, 0, 0, 0, 0), (.getfield 107, 9, 45, 2, 0), (.aload_n 0, 0, 0, 0, 0), (.getfield 317, 9, 46, 0, 0), (.iconst 1, 0, 0, 0, 0), (.isub, 0, 0, 0, 0), (.iaload, 0, 0, 0, 0), (.istore_n 2, 2, 0, 0, 0), (.iload_n 2, 2, 0, 0, 0), (.bipush 6, 0, 0, 0, 0), (.if_icmp .eq 19, 41, 0, 0, 0), (.iload_n 1, 1, 0, 0, 0), (.ifCond .eq 16, 42, 0, 0, 0), (.iload_n 2, 2, 0, 0, 0), (.bipush 8, 0, 0, 0, 0), (.if_icmp .eq 9, 41, 0, 0, 0), (.iload_n 2, 2, 0, 0, 0), (.bipush 9, 0, 0, 0, 0), (.if_icmp .ne 4, 42, 0, 0, 0)]
  | 41 => [(.return_, 0, 0, 0, 0)]
  | 42 => [(.aload_n 0, 0, 0, 0, 0), (.dup, 0, 0, 0, 0), (.getfield 317, 9, 46, 0, 0), (.iconst 1, 0, 0, 0, 0), (.isub, 0, 0, 0, 0), (.putfield 317, 9, 46, 0, 0), (.aload_n 0, 0, 0, 0, 0), (.iload_n 2, 2, 0, 0, 0), (.bipush 8, 0, 0, 0, 0), (.if_icmp .ne 7, 63, 0, 0, 0), (.iconst 2, 0, 0, 0, 0), (.goto 24, 84, 0, 0, 0)]
  | 63 => [(.iload_n 2, 2, 0, 0, 0), (.bipush 9, 0, 0, 0, 0), (.if_icmp .ne 7, 73, 0, 0, 0), (.iconst 3, 0, 0, 0, 0), (.goto 14, 84, 0, 0, 0)]
  | 73 => [(.iload_n 2, 2, 0, 0, 0), (.bipush 10, 0, 0, 0, 0), (.if_icmp .ne 7, 83, 0, 0, 0), (.iconst 4, 0, 0, 0, 0), (.goto 4, 84, 0, 0, 0)]
  | 83 => [(.iconst 5, 0, 0, 0, 0)]
  | 84 => [(.iconst 0, 0, 0, 0, 0), (.invokevirtual 320, 187, 109, 2, 3), (.goto (-88), 0, 0, 0, 0)]
  | 91 => [(.return_, 0, 0, 0, 0)]
  | _ => []
set_option maxRecDepth 20000 in
theorem ck_188 : ∀ t, chkL 188 t (bk_188 t) = true := by
  intro t
  unfold bk_188
  split <;> first | decide +kernel | rfl
def cu_188 : Nat → Option (List Nat) := fun t => match t with | 0 => some [0, 1] | _ => none
/-- SluiceLogsModel.expression()V -/
def bk_189 : Nat → List Ins := fun t => match t with
  | 0 => [(.aload_n 0, 0, 0, 0, 0), (.iconst 0, 0, 0, 0, 0), (.putfield 317, 9, 46, 0, 0), (.aload_n 0, 0, 0, 0, 0), (.getfield 242, 9, 12, 0, 0), (.istore_n 1, 1, 0, 0, 0), (.iconst 1, 0, 0, 0, 0), (.istore_n 2, 2, 0, 0, 0)]
  | 12 => [(.iload_n 2, 2, 0, 0, 0), (.ifCond .eq 259, 272, 0, 0, 0), (.aload_n 0, 0, 0, 0, 0), (.getfield 215, 9, 13, 0, 0), (.ifCond .ne 252, 272, 0, 0, 0)]
  | 23 => [(.aload_n 0, 0, 0, 0, 0), (.bipush 6, 0, 0, 0, 0), (.invokevirtual 233, 166, 109, 1, 2), (.ifCond .eq 55, 84, 0, 0, 0), (.aload_n 0, 0, 0, 0, 0), (.getfield 242, 9, 12, 0, 0), (.bipush 6, 0, 0, 0, 0), (.if_icmp .ne 8, 46, 0, 0, 0), (.aload_n 0, 0, 0, 0, 0), (.iconst 2, 0, 0, 0, 0), (.invokevirtual 230, 167, 109, 1, 2)]
  | 46 => [(.aload_n 0, 0, 0, 0, 0), (.dup, 0, 0, 0, 0), (.getfield 242, 9, 12, 0, 0), (.iconst 1, 0, 0, 0, 0), (.iadd, 0, 0, 0, 0), (.putfield 242, 9, 12, 0, 0), (.aload_n 0, 0, 0, 0, 0), (.invokevirtual 236, 169, 109, 0, 1), (.aload_n 0, 0, 0, 0, 0), (.getfield 107, 9, 45, 2, 0), (.aload_n 0, 0, 0, 0, 0), (.getfield 317, 9, 46, 0, 0), (.bipush 6, 0, 0, 0, 0), (.iastore, 0, 0, 0, 0), (.aload_n 0, 0, 0, 0, 0), (.dup, 0, 0, 0, 0), (.getfield 317, 9, 46, 0, 0), (.iconst 1, 0, 0, 0, 0), (.iadd, 0, 0, 0, 0), (.putfield 317, 9, 46, 0, 0), (.goto (-58), 23, 0, 0, 0)]
  | 84 => [(.aload_n 0, 0, 0, 0, 0), (.invokevirtual 323, 190, 109, 0, 1), (.aload_n 0, 0, 0, 0, 0), (.getfield 215, 9, 13, 0, 0), (.ifCond .le 4, 96, 0, 0, 0), (.return_, 0, 0, 0, 0)]
  | 96 => [(.aload_n 0, 0, 0, 0, 0), (.bipush 7, 0, 0, 0, 0), (.invokevirtual 233, 166, 109, 1, 2), (.ifCond .eq 43, 145, 0, 0, 0), (.aload_n 0, 0, 0, 0, 0), (.getfield 242, 9, 12, 0, 0), (.iload_n 1, 1, 0, 0, 0), (.if_icmp .le 35, 145, 0, 0, 0), (.aload_n 0, 0, 0, 0, 0), (.iconst 0, 0, 0, 0, 0), (.invokevirtual 326, 188, 109, 1, 3), (.aload_n 0, 0, 0, 0, 0), (.dup, 0, 0, 0, 0), (.getfield 317, 9, 46, 0, 0), (.iconst 1, 0, 0, 0, 0), (.isub, 0, 0, 0, 0), (.putfield 317, 9, 46, 0, 0), (.aload_n 0, 0, 0, 0, 0), (.dup, 0, 0, 0, 0), (.getfield 242, 9, 12, 0, 0), (.iconst 1, 0, 0, 0, 0), (.isub, 0, 0, 0, 0), (.putfield 242, 9, 12, 0, 0), (.aload_n 0, 0, 0, 0, 0), (.invokevirtual 236, 169, 109, 0, 1), (.goto (-46), 96, 0, 0, 0)]
  | 145 => [(.aload_n 0, 0, 0, 0, 0), (.bipush 8, 0, 0, 0, 0), (.invokevirtual 233, 166, 109, 1, 2), (.ifCond .ne 30, 181, 0, 0, 0), (.aload_n 0, 0, 0, 0, 0), (.bipush 9, 0, 0, 0, 0), (.invokevirtual 233, 166, 109, 1, 2), (.ifCond .ne 21, 181, 0, 0, 0), (.aload_n 0, 0, 0, 0, 0), (.bipush 10, 0, 0, 0, 0), (.invokevirtual 233, 166, 109, 1, 2), (.ifCond .ne 12, 181, 0, 0, 0), (.aload_n 0, 0, 0, 0, 0), (.bipush 15, 0, 0, 0, 0), (.invokevirtual 233, 166, 109, 1, 2), (.ifCond .eq 7, 185, 0, 0, 0)]
  | 181 => [(.iconst 1, 0, 0, 0, 0), (.goto 4, 186, 0, 0, 0)]
  | 185 => [(.iconst 0, 0, 0, 0, 0)]
  | 186 => [(.istore_n 2, 2, 0, 0, 0), (.iload_n 2, 2, 0, 0, 0), (.ifCond .ne 22, 210, 0, 0, 0), (.aload_n 0, 0, 0, 0, 0), (.getfield 242, 9, 12, 0, 0), (.iload_n 1, 1, 0, 0, 0), (.if_icmp .le 8, 204, 0, 0, 0), (.aload_n 0, 0, 0, 0, 0), (.iconst 1, 0, 0, 0, 0), (.invokevirtual 230, 167, 109, 1, 2)]
  | 204 => [(.aload_n 0, 0, 0, 0, 0), (.iconst 0, 0, 0, 0, 0), (.invokevirtual 326, 188, 109, 1, 3), (.return_, 0, 0, 0, 0)]
  | 210 => [(.aload_n 0, 0, 0, 0, 0), (.aload_n 0, 0, 0, 0, 0), (.bipush 10, 0, 0, 0, 0), (.invokevirtual 233, 166, 109, 1, 2), (.ifCond .ne 12, 229, 0, 0, 0), (.aload_n 0, 0, 0, 0, 0), (.bipush 15, 0, 0, 0, 0), (.invokevirtual 233, 166, 109, 1, 2), (.ifCond .eq 7, 233, 0, 0, 0)]
  | 229 => [(.iconst 1, 0, 0, 0, 0), (.goto 4, 234, 0, 0, 0)]
  | 233 => [(.iconst 0, 0, 0, 0, 0)]
  | 234 => [(.invokevirtual 326, 188, 109, 1, 3), (.aload_n 0, 0, 0, 0, 0), (.getfield 107, 9, 45, 2, 0), (.aload_n 0, 0, 0, 0, 0), (.getfield 317, 9, 46, 0, 0), (.aload_n 0, 0, 0, 0, 0), (.getfield 20, 9, 5, 2, 0), (.aload_n 0, 0, 0, 0, 0), (.getfield 218, 9, 11, 0, 0), (.iaload, 0, 0, 0, 0), (.iastore, 0, 0, 0, 0), (.aload_n 0, 0, 0, 0, 0), (.dup, 0, 0, 0, 0), (.getfield 317, 9, 46, 0, 0), (.iconst 1, 0, 0, 0, 0), (.iadd, 0, 0, 0, 0), (.putfield 317, 9, 46, 0, 0), (.aload_n 0, 0, 0, 0, 0), (.invokevirtual 236, 169, 109, 0, 1), (.goto (-257), 12, 0, 0, 0)]
  | 272 => [(.return_, 0, 0, 0, 0)]
  | _ => []
set_option maxRecDepth 20000 in
theorem ck_189 : ∀ t, chkL 189 t (bk_189 t) = true := by
  intro t
  unfold bk_189
  split <;> first | decide +kernel | rfl
def cu_189 : Nat → Option (List Nat) := fun t => match t with | 12 => some [0, 1, 2] | 23 => some [0, 1] | 96 => some [0, 1] | _ => none
/-- SluiceLogsModel.unit()V -/
def bk_190 : Nat → List Ins := fun t => match t with
  | 0 => [(.aload_n 0, 0, 0, 0, 0), (.iconst 2, 0, 0, 0, 0), (.invokevirtual 233, 166, 109, 1, 2), (.ifCond .eq 24, 29, 0, 0, 0), (.aload_n 0, 0, 0, 0, 0), (.iconst 0, 0, 0, 0, 0), (.aload_n 0, 0, 0, 0, 0), (.getfield 27, 9, 7, 2, 0), (.aload_n 0, 0, 0, 0, 0), (.getfield 218, 9, 11, 0, 0), (.iaload, 0, 0, 0, 0), (.invokevirtual 320, 187, 109, 2, 3), (.aload_n 0, 0, 0, 0, 0), (.invokevirtual 236, 169, 109, 0, 1), (.goto 67, 93, 0, 0, 0)]
  | 29 => [(.aload_n 0, 0, 0, 0, 0), (.getfield 215, 9, 13, 0, 0), (.ifCond .ne 55, 88, 0, 0, 0), (.aload_n 0, 0, 0, 0, 0), (.getfield 20, 9, 5, 2, 0), (.aload_n 0, 0, 0, 0, 0), (.getfield 218, 9, 11, 0, 0), (.iaload, 0, 0, 0, 0), (.bipush 34, 0, 0, 0, 0), (.if_icmp .lt 41, 88, 0, 0, 0), (.aload_n 0, 0, 0, 0, 0), (.getfield 20, 9, 5, 2, 0), (.aload_n 0, 0, 0, 0, 0), (.getfield 218, 9, 11, 0, 0), (.iaload, 0, 0, 0, 0), (.bipush 42, 0, 0, 0, 0), (.if_icmp .gt 27, 88, 0, 0, 0), (.aload_n 0, 0, 0, 0, 0), (.iconst 1, 0, 0, 0, 0), (.aload_n 0, 0, 0, 0, 0), (.getfield 20, 9, 5, 2, 0), (.aload_n 0, 0, 0, 0, 0), (.getfield 218, 9, 11, 0, 0), (.iaload, 0, 0, 0, 0), (.bipush 34, 0, 0, 0, 0), (.isub, 0, 0, 0, 0), (.invokevirtual 320, 187, 109, 2, 3), (.aload_n 0, 0, 0, 0, 0), (.invokevirtual 236, 169, 109, 0, 1), (.goto 8, 93, 0, 0, 0)]
  | 88 => [(.aload_n 0, 0, 0, 0, 0), (.iconst 1, 0, 0, 0, 0), (.invokevirtual 230, 167, 109, 1, 2)]
  | 93 => [(.return_, 0, 0, 0, 0)]
  | _ => []
set_option maxRecDepth 20000 in
theorem ck_190 : ∀ t, chkL 190 t (bk_190 t) = true := by
  intro t
  unfold bk_190
  split <;> first | decide +kernel | rfl
def cu_190 : Nat → Option (List Nat) := fun _ => none
/-- SluiceLogsModel.termOf(II)I -/
def bk_191 : Nat → List Ins := fun t => match t with
  | 0 => [(.iconst 0, 0, 0, 0, 0), (.istore_n 3, 3, 0, 0, 0), (.iload_n 1, 1, 0, 0, 0), (.istore 4, 4, 0, 0, 0)]
  | 5 => [(.iload 4, 4, 0, 0, 0), (.iload_n 2, 2, 0, 0, 0), (.if_icmp .ge 157, 165, 0, 0, 0), (.aload_n 0, 0, 0, 0, 0), (.getfield 101, 9, 43, 2, 0), (.iload 4, 4, 0, 0, 0), (.iaload, 0, 0, 0, 0), (.istore 5, 5, 0, 0, 0), (.iload 5, 5, 0, 0, 0), (.iconst 2, 0, 0, 0, 0), (.if_icmp .ge 42, 65, 0, 0, 0), (.aload_n 0, 0, 0, 0, 0), (.getfield 113, 9, 48, 2, 0), (.iload_n 3, 3, 0, 0, 0), (.iload 5, 5, 0, 0, 0), (.ifCond .ne 13, 46, 0, 0, 0), (.aload_n 0, 0, 0, 0, 0), (.getfield 104, 9, 44, 2, 0), (.iload 4, 4, 0, 0, 0), (.iaload, 0, 0, 0, 0), (.goto 15, 58, 0, 0, 0)]
  | 46 => [(.aload_n 0, 0, 0, 0, 0), (.getfield 110, 9, 47, 2, 0), (.aload_n 0, 0, 0, 0, 0), (.getfield 104, 9, 44, 2, 0), (.iload 4, 4, 0, 0, 0), (.iaload, 0, 0, 0, 0), (.iaload, 0, 0, 0, 0)]
  | 58 => [(.iastore, 0, 0, 0, 0), (.iinc 3 1, 3, 0, 0, 0), (.goto 97, 159, 0, 0, 0)]
  | 65 => [(.iinc 3 (-1), 3, 0, 0, 0), (.aload_n 0, 0, 0, 0, 0), (.getfield 113, 9, 48, 2, 0), (.iload_n 3, 3, 0, 0, 0), (.iconst 1, 0, 0, 0, 0), (.isub, 0, 0, 0, 0), (.iaload, 0, 0, 0, 0), (.istore 6, 6, 0, 0, 0), (.aload_n 0, 0, 0, 0, 0), (.getfield 113, 9, 48, 2, 0), (.iload_n 3, 3, 0, 0, 0), (.iaload, 0, 0, 0, 0), (.istore 7, 7, 0, 0, 0), (.iload 5, 5, 0, 0, 0), (.iconst 5, 0, 0, 0, 0), (.if_icmp .ne 15, 104, 0, 0, 0), (.iload 7, 7, 0, 0, 0), (.ifCond .ne 10, 104, 0, 0, 0), (.aload_n 0, 0, 0, 0, 0), (.iconst 1, 0, 0, 0, 0), (.putfield 330, 9, 49, 3, 0), (.iconst 0, 0, 0, 0, 0), (.ireturn, 0, 0, 0, 0)]
  | 104 => [(.aload_n 0, 0, 0, 0, 0), (.getfield 113, 9, 48, 2, 0), (.iload_n 3, 3, 0, 0, 0), (.iconst 1, 0, 0, 0, 0), (.isub, 0, 0, 0, 0), (.iload 5, 5, 0, 0, 0), (.iconst 2, 0, 0, 0, 0), (.if_icmp .ne 11, 125, 0, 0, 0), (.iload 6, 6, 0, 0, 0), (.iload 7, 7, 0, 0, 0), (.iadd, 0, 0, 0, 0), (.goto 36, 158, 0, 0, 0)]
  | 125 => [(.iload 5, 5, 0, 0, 0), (.iconst 3, 0, 0, 0, 0), (.if_icmp .ne 11, 139, 0, 0, 0), (.iload 6, 6, 0, 0, 0), (.iload 7, 7, 0, 0, 0), (.isub, 0, 0, 0, 0), (.goto 22, 158, 0, 0, 0)]
  | 139 => [(.iload 5, 5, 0, 0, 0), (.iconst 4, 0, 0, 0, 0), (.if_icmp .ne 11, 153, 0, 0, 0), (.iload 6, 6, 0, 0, 0), (.iload 7, 7, 0, 0, 0), (.imul, 0, 0, 0, 0), (.goto 8, 158, 0, 0, 0)]
  | 153 => [(.iload 6, 6, 0, 0, 0), (.iload 7, 7, 0, 0, 0), (.idiv, 0, 0, 0, 0)]
  | 158 => [(.iastore, 0, 0, 0, 0)]
  | 159 => [(.iinc 4 1, 4, 0, 0, 0), (.goto (-157), 5, 0, 0, 0)]
  | 165 => [(.aload_n 0, 0, 0, 0, 0), (.getfield 113, 9, 48, 2, 0), (.iconst 0, 0, 0, 0, 0), (.iaload, 0, 0, 0, 0), (.ireturn, 0, 0, 0, 0)]
  | _ => []
set_option maxRecDepth 20000 in
theorem ck_191 : ∀ t, chkL 191 t (bk_191 t) = true := by
  intro t
  unfold bk_191
  split <;> first | decide +kernel | rfl
def cu_191 : Nat → Option (List Nat) := fun t => match t with | 5 => some [0, 2, 3, 4] | _ => none
/-- SluiceLogsModel.in(III)Z -/
def bk_192 : Nat → List Ins := fun t => match t with
  | 0 => [(.iload_n 0, 0, 0, 0, 0), (.iload_n 1, 1, 0, 0, 0), (.if_icmp .lt 12, 14, 0, 0, 0), (.iload_n 0, 0, 0, 0, 0), (.iload_n 2, 2, 0, 0, 0), (.if_icmp .gt 7, 14, 0, 0, 0), (.iconst 1, 0, 0, 0, 0), (.goto 4, 15, 0, 0, 0)]
  | 14 => [(.iconst 0, 0, 0, 0, 0)]
  | 15 => [(.ireturn, 3, 0, 0, 0)]
  | _ => []
set_option maxRecDepth 20000 in
theorem ck_192 : ∀ t, chkL 192 t (bk_192 t) = true := by
  intro t
  unfold bk_192
  split <;> first | decide +kernel | rfl
def cu_192 : Nat → Option (List Nat) := fun _ => none
/-- SluiceLogsModel.within(III)I -/
def bk_193 : Nat → List Ins := fun t => match t with
  | 0 => [(.iload_n 0, 0, 0, 0, 0), (.iload_n 1, 1, 0, 0, 0), (.if_icmp .ge 7, 9, 0, 0, 0), (.iload_n 1, 1, 0, 0, 0), (.goto 13, 19, 0, 0, 0)]
  | 9 => [(.iload_n 0, 0, 0, 0, 0), (.iload_n 2, 2, 0, 0, 0), (.if_icmp .le 7, 18, 0, 0, 0), (.iload_n 2, 2, 0, 0, 0), (.goto 4, 19, 0, 0, 0)]
  | 18 => [(.iload_n 0, 0, 0, 0, 0)]
  | 19 => [(.ireturn, 0, 0, 0, 0)]
  | _ => []
set_option maxRecDepth 20000 in
theorem ck_193 : ∀ t, chkL 193 t (bk_193 t) = true := by
  intro t
  unfold bk_193
  split <;> first | decide +kernel | rfl
def cu_193 : Nat → Option (List Nat) := fun _ => none
/-- SluiceLogsModel.bits(I)I -/
def bk_194 : Nat → List Ins := fun t => match t with
  | 0 => [(.iconst 0, 0, 0, 0, 0), (.istore_n 1, 1, 0, 0, 0), (.iconst 0, 0, 0, 0, 0), (.istore_n 2, 2, 0, 0, 0)]
  | 4 => [(.iload_n 2, 2, 0, 0, 0), (.bipush 24, 0, 0, 0, 0), (.if_icmp .ge 17, 24, 0, 0, 0), (.iload_n 1, 1, 0, 0, 0), (.iload_n 0, 0, 0, 0, 0), (.iload_n 2, 2, 0, 0, 0), (.ishr, 0, 0, 0, 0), (.iconst 1, 0, 0, 0, 0), (.iand, 0, 0, 0, 0), (.iadd, 0, 0, 0, 0), (.istore_n 1, 1, 0, 0, 0), (.iinc 2 1, 2, 0, 0, 0), (.goto (-17), 4, 0, 0, 0)]
  | 24 => [(.iload_n 1, 1, 0, 0, 0), (.ireturn, 0, 0, 0, 0)]
  | _ => []
set_option maxRecDepth 20000 in
theorem ck_194 : ∀ t, chkL 194 t (bk_194 t) = true := by
  intro t
  unfold bk_194
  split <;> first | decide +kernel | rfl
def cu_194 : Nat → Option (List Nat) := fun t => match t with | 4 => some [0, 1, 2] | _ => none
/-- SluiceLogsModel.isLog(I)Z -/
def bk_195 : Nat → List Ins := fun t => match t with
  | 0 => [(.iload_n 1, 1, 0, 0, 0), (.iconst 0, 0, 0, 0, 0), (.aload_n 0, 0, 0, 0, 0), (.getfield 46, 9, 23, 2, 0), (.aload_n 0, 0, 0, 0, 0), (.getfield 245, 9, 18, 0, 0), (.iaload, 0, 0, 0, 0), (.iconst 1, 0, 0, 0, 0), (.isub, 0, 0, 0, 0), (.invokestatic 334, 192, 0, 3, 3), (.ireturn, 3, 0, 0, 0)]
  | _ => []
set_option maxRecDepth 20000 in
theorem ck_195 : ∀ t, chkL 195 t (bk_195 t) = true := by
  intro t
  unfold bk_195
  split <;> first | decide +kernel | rfl
def cu_195 : Nat → Option (List Nat) := fun _ => none
/-- SluiceLogsModel.isField(I)Z -/
def bk_196 : Nat → List Ins := fun t => match t with
  | 0 => [(.iload_n 1, 1, 0, 0, 0), (.iconst 0, 0, 0, 0, 0), (.aload_n 0, 0, 0, 0, 0), (.getfield 49, 9, 24, 2, 0), (.aload_n 0, 0, 0, 0, 0), (.getfield 245, 9, 18, 0, 0), (.iaload, 0, 0, 0, 0), (.iconst 1, 0, 0, 0, 0), (.isub, 0, 0, 0, 0), (.invokestatic 334, 192, 0, 3, 3), (.ireturn, 3, 0, 0, 0)]
  | _ => []
set_option maxRecDepth 20000 in
theorem ck_196 : ∀ t, chkL 196 t (bk_196 t) = true := by
  intro t
  unfold bk_196
  split <;> first | decide +kernel | rfl
def cu_196 : Nat → Option (List Nat) := fun _ => none
/-- SluiceLogsModel.isNotch(I)Z -/
def bk_197 : Nat → List Ins := fun t => match t with
  | 0 => [(.iload_n 1, 1, 0, 0, 0), (.iconst 0, 0, 0, 0, 0), (.aload_n 0, 0, 0, 0, 0), (.getfield 61, 9, 28, 2, 0), (.aload_n 0, 0, 0, 0, 0), (.getfield 245, 9, 18, 0, 0), (.iaload, 0, 0, 0, 0), (.iconst 1, 0, 0, 0, 0), (.isub, 0, 0, 0, 0), (.invokestatic 334, 192, 0, 3, 3), (.ireturn, 3, 0, 0, 0)]
  | _ => []
set_option maxRecDepth 20000 in
theorem ck_197 : ∀ t, chkL 197 t (bk_197 t) = true := by
  intro t
  unfold bk_197
  split <;> first | decide +kernel | rfl
def cu_197 : Nat → Option (List Nat) := fun _ => none
/-- SluiceLogsModel.fromLog(I)I -/
def bk_198 : Nat → List Ins := fun t => match t with
  | 0 => [(.aload_n 0, 0, 0, 0, 0), (.getfield 64, 9, 29, 2, 0), (.bipush 12, 0, 0, 0, 0), (.aload_n 0, 0, 0, 0, 0), (.getfield 245, 9, 18, 0, 0), (.imul, 0, 0, 0, 0), (.iload_n 1, 1, 0, 0, 0), (.iadd, 0, 0, 0, 0), (.iaload, 0, 0, 0, 0), (.ireturn, 0, 0, 0, 0)]
  | _ => []
set_option maxRecDepth 20000 in
theorem ck_198 : ∀ t, chkL 198 t (bk_198 t) = true := by
  intro t
  unfold bk_198
  split <;> first | decide +kernel | rfl
def cu_198 : Nat → Option (List Nat) := fun _ => none
/-- SluiceLogsModel.toWhere(I)I -/
def bk_199 : Nat → List Ins := fun t => match t with
  | 0 => [(.aload_n 0, 0, 0, 0, 0), (.getfield 67, 9, 30, 2, 0), (.bipush 12, 0, 0, 0, 0), (.aload_n 0, 0, 0, 0, 0), (.getfield 245, 9, 18, 0, 0), (.imul, 0, 0, 0, 0), (.iload_n 1, 1, 0, 0, 0), (.iadd, 0, 0, 0, 0), (.iaload, 0, 0, 0, 0), (.ireturn, 0, 0, 0, 0)]
  | _ => []
set_option maxRecDepth 20000 in
theorem ck_199 : ∀ t, chkL 199 t (bk_199 t) = true := by
  intro t
  unfold bk_199
  split <;> first | decide +kernel | rfl
def cu_199 : Nat → Option (List Nat) := fun _ => none
/-- SluiceLogsModel.wideAt(I)I -/
def bk_200 : Nat → List Ins := fun t => match t with
  | 0 => [(.aload_n 0, 0, 0, 0, 0), (.getfield 119, 9, 51, 2, 0), (.bipush 18, 0, 0, 0, 0), (.iload_n 1, 1, 0, 0, 0), (.iadd, 0, 0, 0, 0), (.iaload, 0, 0, 0, 0), (.ireturn, 0, 0, 0, 0)]
  | _ => []
set_option maxRecDepth 20000 in
theorem ck_200 : ∀ t, chkL 200 t (bk_200 t) = true := by
  intro t
  unfold bk_200
  split <;> first | decide +kernel | rfl
def cu_200 : Nat → Option (List Nat) := fun _ => none
/-- SluiceLogsModel.begins()V -/
def bk_201 : Nat → List Ins := fun t => match t with
  | 0 => [(.iconst 0, 0, 0, 0, 0), (.istore_n 1, 1, 0, 0, 0)]
  | 2 => [(.iload_n 1, 1, 0, 0, 0), (.bipush 33, 0, 0, 0, 0), (.if_icmp .ge 16, 21, 0, 0, 0), (.aload_n 0, 0, 0, 0, 0), (.getfield 119, 9, 51, 2, 0), (.iload_n 1, 1, 0, 0, 0), (.iconst 0, 0, 0, 0, 0), (.iastore, 0, 0, 0, 0), (.iinc 1 1, 1, 0, 0, 0), (.goto (-16), 2, 0, 0, 0)]
  | 21 => [(.iconst 0, 0, 0, 0, 0), (.istore_n 1, 1, 0, 0, 0)]
  | 23 => [(.iload_n 1, 1, 0, 0, 0), (.aload_n 0, 0, 0, 0, 0), (.getfield 49, 9, 24, 2, 0), (.aload_n 0, 0, 0, 0, 0), (.getfield 245, 9, 18, 0, 0), (.iaload, 0, 0, 0, 0), (.if_icmp .ge 52, 85, 0, 0, 0), (.aload_n 0, 0, 0, 0, 0), (.getfield 119, 9, 51, 2, 0), (.iload_n 1, 1, 0, 0, 0), (.aload_n 0, 0, 0, 0, 0), (.getfield 55, 9, 26, 2, 0), (.bipush 6, 0, 0, 0, 0), (.aload_n 0, 0, 0, 0, 0), (.getfield 245, 9, 18, 0, 0), (.imul, 0, 0, 0, 0), (.iload_n 1, 1, 0, 0, 0), (.iadd, 0, 0, 0, 0), (.iaload, 0, 0, 0, 0), (.iastore, 0, 0, 0, 0), (.aload_n 0, 0, 0, 0, 0), (.getfield 119, 9, 51, 2, 0), (.bipush 6, 0, 0, 0, 0), (.iload_n 1, 1, 0, 0, 0), (.iadd, 0, 0, 0, 0), (.aload_n 0, 0, 0, 0, 0), (.getfield 58, 9, 27, 2, 0), (.bipush 6, 0, 0, 0, 0), (.aload_n 0, 0, 0, 0, 0), (.getfield 245, 9, 18, 0, 0), (.imul, 0, 0, 0, 0), (.iload_n 1, 1, 0, 0, 0), (.iadd, 0, 0, 0, 0), (.iaload, 0, 0, 0, 0), (.iastore, 0, 0, 0, 0), (.iinc 1 1, 1, 0, 0, 0), (.goto (-59), 23, 0, 0, 0)]
  | 85 => [(.iconst 0, 0, 0, 0, 0), (.istore_n 1, 1, 0, 0, 0)]
  | 87 => [(.iload_n 1, 1, 0, 0, 0), (.aload_n 0, 0, 0, 0, 0), (.getfield 61, 9, 28, 2, 0), (.aload_n 0, 0, 0, 0, 0), (.getfield 245, 9, 18, 0, 0), (.iaload, 0, 0, 0, 0), (.if_icmp .ge 32, 129, 0, 0, 0), (.aload_n 0, 0, 0, 0, 0), (.getfield 119, 9, 51, 2, 0), (.bipush 18, 0, 0, 0, 0), (.iload_n 1, 1, 0, 0, 0), (.iadd, 0, 0, 0, 0), (.aload_n 0, 0, 0, 0, 0), (.getfield 70, 9, 31, 2, 0), (.bipush 12, 0, 0, 0, 0), (.aload_n 0, 0, 0, 0, 0), (.getfield 245, 9, 18, 0, 0), (.imul, 0, 0, 0, 0), (.iload_n 1, 1, 0, 0, 0), (.iadd, 0, 0, 0, 0), (.iaload, 0, 0, 0, 0), (.iastore, 0, 0, 0, 0), (.iinc 1 1, 1, 0, 0, 0), (.goto (-39), 87, 0, 0, 0)]
  | 129 => [(.aload_n 0, 0, 0, 0, 0), (.getfield 119, 9, 51, 2, 0), (.bipush 30, 0, 0, 0, 0), (.aload_n 0, 0, 0, 0, 0), (.getfield 73, 9, 32, 2, 0), (.aload_n 0, 0, 0, 0, 0), (.getfield 245, 9, 18, 0, 0), (.iaload, 0, 0, 0, 0), (.iastore, 0, 0, 0, 0), (.aload_n 0, 0, 0, 0, 0), (.aload_n 0, 0, 0, 0, 0), (.getfield 76, 9, 33, 2, 0), (.aload_n 0, 0, 0, 0, 0), (.getfield 245, 9, 18, 0, 0), (.iaload, 0, 0, 0, 0), (.putfield 338, 9, 52, 0, 0), (.aload_n 0, 0, 0, 0, 0), (.iconst 0, 0, 0, 0, 0), (.putfield 341, 9, 53, 3, 0), (.aload_n 0, 0, 0, 0, 0), (.invokevirtual 344, 213, 109, 0, 5), (.return_, 0, 0, 0, 0)]
  | _ => []
set_option maxRecDepth 20000 in
theorem ck_201 : ∀ t, chkL 201 t (bk_201 t) = true := by
  intro t
  unfold bk_201
  split <;> first | decide +kernel | rfl
def cu_201 : Nat → Option (List Nat) := fun t => match t with | 2 => some [0, 1] | 23 => some [0, 1] | 87 => some [0, 1] | _ => none
/-- SluiceLogsModel.keepsRow()V -/
def bk_202 : Nat → List Ins := fun t => match t with
  | 0 => [(.iconst 0, 0, 0, 0, 0), (.istore_n 1, 1, 0, 0, 0)]
  | 2 => [(.iload_n 1, 1, 0, 0, 0), (.bipush 33, 0, 0, 0, 0), (.if_icmp .ge 21, 26, 0, 0, 0), (.aload_n 0, 0, 0, 0, 0), (.getfield 116, 9, 50, 2, 0), (.iload_n 1, 1, 0, 0, 0), (.aload_n 0, 0, 0, 0, 0), (.getfield 119, 9, 51, 2, 0), (.iload_n 1, 1, 0, 0, 0), (.iaload, 0, 0, 0, 0), (.iastore, 0, 0, 0, 0), (.iinc 1 1, 1, 0, 0, 0), (.goto (-21), 2, 0, 0, 0)]
  | 26 => [(.return_, 0, 0, 0, 0)]
  | _ => []
set_option maxRecDepth 20000 in
theorem ck_202 : ∀ t, chkL 202 t (bk_202 t) = true := by
  intro t
  unfold bk_202
  split <;> first | decide +kernel | rfl
def cu_202 : Nat → Option (List Nat) := fun t => match t with | 2 => some [0, 1] | _ => none
/-- SluiceLogsModel.copies()V -/
def bk_203 : Nat → List Ins := fun t => match t with
  | 0 => [(.iconst 0, 0, 0, 0, 0), (.istore_n 1, 1, 0, 0, 0)]
  | 2 => [(.iload_n 1, 1, 0, 0, 0), (.bipush 33, 0, 0, 0, 0), (.if_icmp .ge 21, 26, 0, 0, 0), (.aload_n 0, 0, 0, 0, 0), (.getfield 119, 9, 51, 2, 0), (.iload_n 1, 1, 0, 0, 0), (.aload_n 0, 0, 0, 0, 0), (.getfield 116, 9, 50, 2, 0), (.iload_n 1, 1, 0, 0, 0), (.iaload, 0, 0, 0, 0), (.iastore, 0, 0, 0, 0), (.iinc 1 1, 1, 0, 0, 0), (.goto (-21), 2, 0, 0, 0)]
  | 26 => [(.aload_n 0, 0, 0, 0, 0), (.aload_n 0, 0, 0, 0, 0), (.getfield 76, 9, 33, 2, 0), (.aload_n 0, 0, 0, 0, 0), (.getfield 245, 9, 18, 0, 0), (.iaload, 0, 0, 0, 0), (.putfield 338, 9, 52, 0, 0), (.aload_n 0, 0, 0, 0, 0), (.iconst 0, 0, 0, 0, 0), (.putfield 341, 9, 53, 3, 0), (.aload_n 0, 0, 0, 0, 0), (.invokevirtual 344, 213, 109, 0, 5), (.return_, 0, 0, 0, 0)]
  | _ => []
set_option maxRecDepth 20000 in
theorem ck_203 : ∀ t, chkL 203 t (bk_203 t) = true := by
  intro t
  unfold bk_203
  split <;> first | decide +kernel | rfl
def cu_203 : Nat → Option (List Nat) := fun t => match t with | 2 => some [0, 1] | _ => none
/-- SluiceLogsModel.mixed(II)I -/
def bk_204 : Nat → List Ins := fun t => match t with
  | 0 => [(.iload_n 0, 0, 0, 0, 0), (.iload_n 1, 1, 0, 0, 0), (.ixor, 0, 0, 0, 0), (.ldc_w 347, 1103515245, 0, 0, 0), (.imul, 0, 0, 0, 0), (.sipush 12345, 0, 0, 0, 0), (.iadd, 0, 0, 0, 0), (.istore_n 2, 2, 0, 0, 0), (.iload_n 2, 2, 0, 0, 0), (.iload_n 2, 2, 0, 0, 0), (.bipush 15, 0, 0, 0, 0), (.iushr, 0, 0, 0, 0), (.ixor, 0, 0, 0, 0), (.ireturn, 0, 0, 0, 0)]
  | _ => []
set_option maxRecDepth 20000 in
theorem ck_204 : ∀ t, chkL 204 t (bk_204 t) = true := by
  intro t
  unfold bk_204
  split <;> first | decide +kernel | rfl
def cu_204 : Nat → Option (List Nat) := fun _ => none
/-- SluiceLogsModel.lotOf(I)I -/
def bk_205 : Nat → List Ins := fun t => match t with
  | 0 => [(.aload_n 0, 0, 0, 0, 0), (.getfield 338, 9, 52, 0, 0), (.sipush 217, 0, 0, 0, 0), (.invokestatic 348, 204, 0, 2, 3), (.iload_n 1, 1, 0, 0, 0), (.invokestatic 348, 204, 0, 2, 3), (.iconst 1, 0, 0, 0, 0), (.iushr, 0, 0, 0, 0), (.bipush 100, 0, 0, 0, 0), (.irem, 0, 0, 0, 0), (.ireturn, 0, 0, 0, 0)]
  | _ => []
set_option maxRecDepth 20000 in
theorem ck_205 : ∀ t, chkL 205 t (bk_205 t) = true := by
  intro t
  unfold bk_205
  split <;> first | decide +kernel | rfl
def cu_205 : Nat → Option (List Nat) := fun _ => none
/-- SluiceLogsModel.fillsLeads()V -/
def bk_206 : Nat → List Ins := fun t => match t with
  | 0 => [(.iconst 0, 0, 0, 0, 0), (.istore_n 1, 1, 0, 0, 0)]
  | 2 => [(.iload_n 1, 1, 0, 0, 0), (.iconst 4, 0, 0, 0, 0), (.if_icmp .ge 16, 20, 0, 0, 0), (.aload_n 0, 0, 0, 0, 0), (.getfield 122, 9, 54, 2, 0), (.iload_n 1, 1, 0, 0, 0), (.iconst 0, 0, 0, 0, 0), (.iastore, 0, 0, 0, 0), (.iinc 1 1, 1, 0, 0, 0), (.goto (-15), 2, 0, 0, 0)]
  | 20 => [(.iconst 0, 0, 0, 0, 0), (.istore_n 1, 1, 0, 0, 0)]
  | 22 => [(.iload_n 1, 1, 0, 0, 0), (.bipush 16, 0, 0, 0, 0), (.if_icmp .ge 16, 41, 0, 0, 0), (.aload_n 0, 0, 0, 0, 0), (.getfield 125, 9, 55, 2, 0), (.iload_n 1, 1, 0, 0, 0), (.iconst 0, 0, 0, 0, 0), (.iastore, 0, 0, 0, 0), (.iinc 1 1, 1, 0, 0, 0), (.goto (-16), 22, 0, 0, 0)]
  | 41 => [(.iconst 0, 0, 0, 0, 0), (.istore_n 1, 1, 0, 0, 0)]
  | 43 => [(.iload_n 1, 1, 0, 0, 0), (.aload_n 0, 0, 0, 0, 0), (.getfield 61, 9, 28, 2, 0), (.aload_n 0, 0, 0, 0, 0), (.getfield 245, 9, 18, 0, 0), (.iaload, 0, 0, 0, 0), (.if_icmp .ge 115, 168, 0, 0, 0), (.aload_n 0, 0, 0, 0, 0), (.iload_n 1, 1, 0, 0, 0), (.invokevirtual 351, 198, 109, 1, 2), (.istore_n 2, 2, 0, 0, 0), (.aload_n 0, 0, 0, 0, 0), (.iload_n 1, 1, 0, 0, 0), (.invokevirtual 354, 199, 109, 1, 2), (.istore_n 3, 3, 0, 0, 0), (.aload_n 0, 0, 0, 0, 0), (.iload_n 1, 1, 0, 0, 0), (.invokevirtual 357, 200, 109, 1, 2), (.istore 4, 4, 0, 0, 0), (.aload_n 0, 0, 0, 0, 0), (.getfield 122, 9, 54, 2, 0), (.iload_n 2, 2, 0, 0, 0), (.dup2, 0, 0, 0, 0), (.iaload, 0, 0, 0, 0), (.iload 4, 4, 0, 0, 0), (.iadd, 0, 0, 0, 0), (.iastore, 0, 0, 0, 0), (.iload_n 3, 3, 0, 0, 0), (.bipush 10, 0, 0, 0, 0), (.if_icmp .ge 23, 112, 0, 0, 0), (.aload_n 0, 0, 0, 0, 0), (.getfield 125, 9, 55, 2, 0), (.iconst 4, 0, 0, 0, 0), (.iload_n 2, 2, 0, 0, 0), (.imul, 0, 0, 0, 0), (.iload_n 3, 3, 0, 0, 0), (.iadd, 0, 0, 0, 0), (.dup2, 0, 0, 0, 0), (.iaload, 0, 0, 0, 0), (.iconst 4, 0, 0, 0, 0), (.iload 4, 4, 0, 0, 0), (.imul, 0, 0, 0, 0), (.iadd, 0, 0, 0, 0), (.iastore, 0, 0, 0, 0), (.goto 53, 162, 0, 0, 0)]
  | 112 => [(.iload_n 3, 3, 0, 0, 0), (.bipush 20, 0, 0, 0, 0), (.if_icmp .ge 47, 162, 0, 0, 0), (.aload_n 0, 0, 0, 0, 0), (.getfield 119, 9, 51, 2, 0), (.iload_n 3, 3, 0, 0, 0), (.bipush 10, 0, 0, 0, 0), (.isub, 0, 0, 0, 0), (.iaload, 0, 0, 0, 0), (.ifCond .lt 35, 162, 0, 0, 0), (.aload_n 0, 0, 0, 0, 0), (.getfield 125, 9, 55, 2, 0), (.iconst 4, 0, 0, 0, 0), (.iload_n 2, 2, 0, 0, 0), (.imul, 0, 0, 0, 0), (.aload_n 0, 0, 0, 0, 0), (.getfield 119, 9, 51, 2, 0), (.iload_n 3, 3, 0, 0, 0), (.bipush 10, 0, 0, 0, 0), (.isub, 0, 0, 0, 0), (.iaload, 0, 0, 0, 0), (.iadd, 0, 0, 0, 0), (.dup2, 0, 0, 0, 0), (.iaload, 0, 0, 0, 0), (.iload 4, 4, 0, 0, 0), (.aload_n 0, 0, 0, 0, 0), (.getfield 119, 9, 51, 2, 0), (.iload_n 3, 3, 0, 0, 0), (.iconst 4, 0, 0, 0, 0), (.isub, 0, 0, 0, 0), (.iaload, 0, 0, 0, 0), (.imul, 0, 0, 0, 0), (.iadd, 0, 0, 0, 0), (.iastore, 0, 0, 0, 0)]
  | 162 => [(.iinc 1 1, 1, 0, 0, 0), (.goto (-122), 43, 0, 0, 0)]
  | 168 => [(.return_, 0, 0, 0, 0)]
  | _ => []
set_option maxRecDepth 20000 in
theorem ck_206 : ∀ t, chkL 206 t (bk_206 t) = true := by
  intro t
  unfold bk_206
  split <;> first | decide +kernel | rfl
def cu_206 : Nat → Option (List Nat) := fun t => match t with | 2 => some [0, 1] | 22 => some [0, 1] | 43 => some [0, 1] | _ => none
/-- SluiceLogsModel.comesBy(I)I -/
def bk_207 : Nat → List Ins := fun t => match t with
  | 0 => [(.iload_n 1, 1, 0, 0, 0), (.istore_n 2, 2, 0, 0, 0), (.iconst 0, 0, 0, 0, 0), (.istore_n 3, 3, 0, 0, 0)]
  | 4 => [(.iload_n 2, 2, 0, 0, 0), (.iload_n 3, 3, 0, 0, 0), (.if_icmp .eq 55, 61, 0, 0, 0), (.iload_n 2, 2, 0, 0, 0), (.istore_n 3, 3, 0, 0, 0), (.iconst 0, 0, 0, 0, 0), (.istore 4, 4, 0, 0, 0)]
  | 14 => [(.iload 4, 4, 0, 0, 0), (.bipush 16, 0, 0, 0, 0), (.if_icmp .ge 40, 58, 0, 0, 0), (.iload_n 3, 3, 0, 0, 0), (.iload 4, 4, 0, 0, 0), (.iconst 4, 0, 0, 0, 0), (.idiv, 0, 0, 0, 0), (.ishr, 0, 0, 0, 0), (.iconst 1, 0, 0, 0, 0), (.iand, 0, 0, 0, 0), (.iconst 1, 0, 0, 0, 0), (.if_icmp .ne 22, 52, 0, 0, 0), (.aload_n 0, 0, 0, 0, 0), (.getfield 125, 9, 55, 2, 0), (.iload 4, 4, 0, 0, 0), (.iaload, 0, 0, 0, 0), (.ifCond .le 12, 52, 0, 0, 0), (.iload_n 2, 2, 0, 0, 0), (.iconst 1, 0, 0, 0, 0), (.iload 4, 4, 0, 0, 0), (.iconst 4, 0, 0, 0, 0), (.irem, 0, 0, 0, 0), (.ishl, 0, 0, 0, 0), (.ior, 0, 0, 0, 0), (.istore_n 2, 2, 0, 0, 0)]
  | 52 => [(.iinc 4 1, 4, 0, 0, 0), (.goto (-41), 14, 0, 0, 0)]
  | 58 => [(.goto (-54), 4, 0, 0, 0)]
  | 61 => [(.iload_n 2, 2, 0, 0, 0), (.ireturn, 0, 0, 0, 0)]
  | _ => []
set_option maxRecDepth 20000 in
theorem ck_207 : ∀ t, chkL 207 t (bk_207 t) = true := by
  intro t
  unfold bk_207
  split <;> first | decide +kernel | rfl
def cu_207 : Nat → Option (List Nat) := fun t => match t with | 4 => some [0, 2, 3] | 14 => some [0, 2, 3, 4] | _ => none
/-- SluiceLogsModel.isOut(I)Z -/
def bk_208 : Nat → List Ins := fun t => match t with
  | 0 => [(.aload_n 0, 0, 0, 0, 0), (.getfield 122, 9, 54, 2, 0), (.iload_n 1, 1, 0, 0, 0), (.iaload, 0, 0, 0, 0), (.ifCond .ne 5, 11, 0, 0, 0), (.iconst 1, 0, 0, 0, 0), (.ireturn, 3, 0, 0, 0)]
  | 11 => [(.iconst 0, 0, 0, 0, 0), (.istore_n 2, 2, 0, 0, 0)]
  | 13 => [(.iload_n 2, 2, 0, 0, 0), (.aload_n 0, 0, 0, 0, 0), (.getfield 61, 9, 28, 2, 0), (.aload_n 0, 0, 0, 0, 0), (.getfield 245, 9, 18, 0, 0), (.iaload, 0, 0, 0, 0), (.if_icmp .ge 38, 61, 0, 0, 0), (.aload_n 0, 0, 0, 0, 0), (.iload_n 2, 2, 0, 0, 0), (.invokevirtual 351, 198, 109, 1, 2), (.iload_n 1, 1, 0, 0, 0), (.if_icmp .ne 23, 55, 0, 0, 0), (.aload_n 0, 0, 0, 0, 0), (.iload_n 2, 2, 0, 0, 0), (.invokevirtual 357, 200, 109, 1, 2), (.ifCond .le 15, 55, 0, 0, 0), (.aload_n 0, 0, 0, 0, 0), (.iload_n 2, 2, 0, 0, 0), (.invokevirtual 354, 199, 109, 1, 2), (.bipush 10, 0, 0, 0, 0), (.if_icmp .lt 5, 55, 0, 0, 0), (.iconst 1, 0, 0, 0, 0), (.ireturn, 3, 0, 0, 0)]
  | 55 => [(.iinc 2 1, 2, 0, 0, 0), (.goto (-45), 13, 0, 0, 0)]
  | 61 => [(.iconst 0, 0, 0, 0, 0), (.ireturn, 3, 0, 0, 0)]
  | _ => []
set_option maxRecDepth 20000 in
theorem ck_208 : ∀ t, chkL 208 t (bk_208 t) = true := by
  intro t
  unfold bk_208
  split <;> first | decide +kernel | rfl
def cu_208 : Nat → Option (List Nat) := fun t => match t with | 13 => some [0, 1, 2] | _ => none
/-- SluiceLogsModel.outBits()I -/
def bk_209 : Nat → List Ins := fun t => match t with
  | 0 => [(.iconst 0, 0, 0, 0, 0), (.istore_n 1, 1, 0, 0, 0), (.iconst 0, 0, 0, 0, 0), (.istore_n 2, 2, 0, 0, 0)]
  | 4 => [(.iload_n 2, 2, 0, 0, 0), (.aload_n 0, 0, 0, 0, 0), (.getfield 46, 9, 23, 2, 0), (.aload_n 0, 0, 0, 0, 0), (.getfield 245, 9, 18, 0, 0), (.iaload, 0, 0, 0, 0), (.if_icmp .ge 23, 37, 0, 0, 0), (.aload_n 0, 0, 0, 0, 0), (.iload_n 2, 2, 0, 0, 0), (.invokevirtual 360, 208, 109, 1, 3), (.ifCond .eq 9, 31, 0, 0, 0), (.iload_n 1, 1, 0, 0, 0), (.iconst 1, 0, 0, 0, 0), (.iload_n 2, 2, 0, 0, 0), (.ishl, 0, 0, 0, 0), (.ior, 0, 0, 0, 0), (.istore_n 1, 1, 0, 0, 0)]
  | 31 => [(.iinc 2 1, 2, 0, 0, 0), (.goto (-30), 4, 0, 0, 0)]
  | 37 => [(.iload_n 1, 1, 0, 0, 0), (.ireturn, 0, 0, 0, 0)]
  | _ => []
set_option maxRecDepth 20000 in
theorem ck_209 : ∀ t, chkL 209 t (bk_209 t) = true := by
  intro t
  unfold bk_209
  split <;> first | decide +kernel | rfl
def cu_209 : Nat → Option (List Nat) := fun t => match t with | 4 => some [0, 1, 2] | _ => none
/-- SluiceLogsModel.isShut(I)Z -/
def bk_210 : Nat → List Ins := fun t => match t with
  | 0 => [(.iconst 0, 0, 0, 0, 0), (.istore_n 2, 2, 0, 0, 0)]
  | 2 => [(.iload_n 2, 2, 0, 0, 0), (.aload_n 0, 0, 0, 0, 0), (.getfield 46, 9, 23, 2, 0), (.aload_n 0, 0, 0, 0, 0), (.getfield 245, 9, 18, 0, 0), (.iaload, 0, 0, 0, 0), (.if_icmp .ge 35, 47, 0, 0, 0), (.iload_n 1, 1, 0, 0, 0), (.iload_n 2, 2, 0, 0, 0), (.ishr, 0, 0, 0, 0), (.iconst 1, 0, 0, 0, 0), (.iand, 0, 0, 0, 0), (.iconst 1, 0, 0, 0, 0), (.if_icmp .ne 20, 41, 0, 0, 0), (.aload_n 0, 0, 0, 0, 0), (.iconst 1, 0, 0, 0, 0), (.iload_n 2, 2, 0, 0, 0), (.ishl, 0, 0, 0, 0), (.invokevirtual 363, 207, 109, 1, 5), (.aload_n 0, 0, 0, 0, 0), (.invokevirtual 366, 209, 109, 0, 3), (.iand, 0, 0, 0, 0), (.ifCond .ne 5, 41, 0, 0, 0), (.iconst 1, 0, 0, 0, 0), (.ireturn, 3, 0, 0, 0)]
  | 41 => [(.iinc 2 1, 2, 0, 0, 0), (.goto (-42), 2, 0, 0, 0)]
  | 47 => [(.iconst 0, 0, 0, 0, 0), (.ireturn, 3, 0, 0, 0)]
  | _ => []
set_option maxRecDepth 20000 in
theorem ck_210 : ∀ t, chkL 210 t (bk_210 t) = true := by
  intro t
  unfold bk_210
  split <;> first | decide +kernel | rfl
def cu_210 : Nat → Option (List Nat) := fun t => match t with | 2 => some [0, 1, 2] | _ => none
/-- SluiceLogsModel.fillsTable(I)V -/
def bk_211 : Nat → List Ins := fun t => match t with
  | 0 => [(.iconst 0, 0, 0, 0, 0), (.istore_n 2, 2, 0, 0, 0)]
  | 2 => [(.iload_n 2, 2, 0, 0, 0), (.bipush 20, 0, 0, 0, 0), (.if_icmp .ge 27, 32, 0, 0, 0), (.aload_n 0, 0, 0, 0, 0), (.getfield 131, 9, 59, 2, 0), (.iload_n 2, 2, 0, 0, 0), (.iload_n 2, 2, 0, 0, 0), (.bipush 6, 0, 0, 0, 0), (.irem, 0, 0, 0, 0), (.ifCond .ne 7, 24, 0, 0, 0), (.lconst 1, 0, 0, 0, 0), (.goto 4, 25, 0, 0, 0)]
  | 24 => [(.lconst 0, 0, 0, 0, 0)]
  | 25 => [(.lastore, 0, 0, 0, 0), (.iinc 2 1, 2, 0, 0, 0), (.goto (-27), 2, 0, 0, 0)]
  | 32 => [(.iconst 0, 0, 0, 0, 0), (.istore_n 2, 2, 0, 0, 0)]
  | 34 => [(.iload_n 2, 2, 0, 0, 0), (.aload_n 0, 0, 0, 0, 0), (.getfield 46, 9, 23, 2, 0), (.aload_n 0, 0, 0, 0, 0), (.getfield 245, 9, 18, 0, 0), (.iaload, 0, 0, 0, 0), (.if_icmp .ge 105, 149, 0, 0, 0), (.iload_n 1, 1, 0, 0, 0), (.iload_n 2, 2, 0, 0, 0), (.ishr, 0, 0, 0, 0), (.iconst 1, 0, 0, 0, 0), (.iand, 0, 0, 0, 0), (.ifCond .ne 6, 58, 0, 0, 0), (.goto 88, 143, 0, 0, 0)]
  | 58 => [(.aload_n 0, 0, 0, 0, 0), (.getfield 131, 9, 59, 2, 0), (.bipush 6, 0, 0, 0, 0), (.iload_n 2, 2, 0, 0, 0), (.imul, 0, 0, 0, 0), (.iconst 4, 0, 0, 0, 0), (.aload_n 0, 0, 0, 0, 0), (.getfield 122, 9, 54, 2, 0), (.iload_n 2, 2, 0, 0, 0), (.iaload, 0, 0, 0, 0), (.ifCond .ne 7, 80, 0, 0, 0), (.iconst 1, 0, 0, 0, 0), (.goto 9, 86, 0, 0, 0)]
  | 80 => [(.aload_n 0, 0, 0, 0, 0), (.getfield 122, 9, 54, 2, 0), (.iload_n 2, 2, 0, 0, 0), (.iaload, 0, 0, 0, 0)]
  | 86 => [(.imul, 0, 0, 0, 0), (.i2l, 0, 0, 0, 0), (.lastore, 0, 0, 0, 0), (.iconst 0, 0, 0, 0, 0), (.istore_n 3, 3, 0, 0, 0)]
  | 91 => [(.iload_n 3, 3, 0, 0, 0), (.aload_n 0, 0, 0, 0, 0), (.getfield 46, 9, 23, 2, 0), (.aload_n 0, 0, 0, 0, 0), (.getfield 245, 9, 18, 0, 0), (.iaload, 0, 0, 0, 0), (.if_icmp .ge 42, 143, 0, 0, 0), (.iload_n 1, 1, 0, 0, 0), (.iload_n 3, 3, 0, 0, 0), (.ishr, 0, 0, 0, 0), (.iconst 1, 0, 0, 0, 0), (.iand, 0, 0, 0, 0), (.iconst 1, 0, 0, 0, 0), (.if_icmp .ne 27, 137, 0, 0, 0), (.aload_n 0, 0, 0, 0, 0), (.getfield 131, 9, 59, 2, 0), (.iconst 5, 0, 0, 0, 0), (.iload_n 2, 2, 0, 0, 0), (.imul, 0, 0, 0, 0), (.iload_n 3, 3, 0, 0, 0), (.iadd, 0, 0, 0, 0), (.dup2, 0, 0, 0, 0), (.laload, 0, 0, 0, 0), (.aload_n 0, 0, 0, 0, 0), (.getfield 125, 9, 55, 2, 0), (.iconst 4, 0, 0, 0, 0), (.iload_n 3, 3, 0, 0, 0), (.imul, 0, 0, 0, 0), (.iload_n 2, 2, 0, 0, 0), (.iadd, 0, 0, 0, 0), (.iaload, 0, 0, 0, 0), (.i2l, 0, 0, 0, 0), (.lsub, 0, 0, 0, 0), (.lastore, 0, 0, 0, 0)]
  | 137 => [(.iinc 3 1, 3, 0, 0, 0), (.goto (-49), 91, 0, 0, 0)]
  | 143 => [(.iinc 2 1, 2, 0, 0, 0), (.goto (-112), 34, 0, 0, 0)]
  | 149 => [(.aload_n 0, 0, 0, 0, 0), (.getfield 131, 9, 59, 2, 0), (.iconst 4, 0, 0, 0, 0), (.aload_n 0, 0, 0, 0, 0), (.getfield 119, 9, 51, 2, 0), (.bipush 30, 0, 0, 0, 0), (.iaload, 0, 0, 0, 0), (.i2l, 0, 0, 0, 0), (.lastore, 0, 0, 0, 0), (.return_, 0, 0, 0, 0)]
  | _ => []
set_option maxRecDepth 20000 in
theorem ck_211 : ∀ t, chkL 211 t (bk_211 t) = true := by
  intro t
  unfold bk_211
  split <;> first | decide +kernel | rfl
def cu_211 : Nat → Option (List Nat) := fun t => match t with | 2 => some [0, 1, 2] | 34 => some [0, 1, 2] | 91 => some [0, 1, 2, 3] | _ => none
/-- SluiceLogsModel.clears(IJ)V -/
def bk_212 : Nat → List Ins := fun t => match t with
  | 0 => [(.aload_n 0, 0, 0, 0, 0), (.getfield 131, 9, 59, 2, 0), (.bipush 6, 0, 0, 0, 0), (.iload_n 1, 1, 0, 0, 0), (.imul, 0, 0, 0, 0), (.laload, 0, 0, 0, 0), (.lstore 4, 4, 0, 0, 0), (.iconst 0, 0, 0, 0, 0), (.istore 6, 6, 0, 0, 0)]
  | 14 => [(.iload 6, 6, 0, 0, 0), (.iconst 4, 0, 0, 0, 0), (.if_icmp .ge 87, 104, 0, 0, 0), (.aload_n 0, 0, 0, 0, 0), (.getfield 131, 9, 59, 2, 0), (.iconst 5, 0, 0, 0, 0), (.iload 6, 6, 0, 0, 0), (.imul, 0, 0, 0, 0), (.iload_n 1, 1, 0, 0, 0), (.iadd, 0, 0, 0, 0), (.laload, 0, 0, 0, 0), (.lstore 7, 7, 0, 0, 0), (.iconst 0, 0, 0, 0, 0), (.istore 9, 9, 0, 0, 0)]
  | 36 => [(.iload 9, 9, 0, 0, 0), (.iconst 5, 0, 0, 0, 0), (.if_icmp .ge 59, 98, 0, 0, 0), (.iload 6, 6, 0, 0, 0), (.iload_n 1, 1, 0, 0, 0), (.if_icmp .eq 53, 98, 0, 0, 0), (.aload_n 0, 0, 0, 0, 0), (.getfield 131, 9, 59, 2, 0), (.iconst 5, 0, 0, 0, 0), (.iload 6, 6, 0, 0, 0), (.imul, 0, 0, 0, 0), (.iload 9, 9, 0, 0, 0), (.iadd, 0, 0, 0, 0), (.aload_n 0, 0, 0, 0, 0), (.getfield 131, 9, 59, 2, 0), (.iconst 5, 0, 0, 0, 0), (.iload 6, 6, 0, 0, 0), (.imul, 0, 0, 0, 0), (.iload 9, 9, 0, 0, 0), (.iadd, 0, 0, 0, 0), (.laload, 0, 0, 0, 0), (.lload 4, 4, 0, 0, 0), (.lmul, 0, 0, 0, 0), (.lload 7, 7, 0, 0, 0), (.aload_n 0, 0, 0, 0, 0), (.getfield 131, 9, 59, 2, 0), (.iconst 5, 0, 0, 0, 0), (.iload_n 1, 1, 0, 0, 0), (.imul, 0, 0, 0, 0), (.iload 9, 9, 0, 0, 0), (.iadd, 0, 0, 0, 0), (.laload, 0, 0, 0, 0), (.lmul, 0, 0, 0, 0), (.lsub, 0, 0, 0, 0), (.lload_n 2, 2, 0, 0, 0), (.ldiv, 0, 0, 0, 0), (.lastore, 0, 0, 0, 0), (.iinc 9 1, 9, 0, 0, 0), (.goto (-59), 36, 0, 0, 0)]
  | 98 => [(.iinc 6 1, 6, 0, 0, 0), (.goto (-87), 14, 0, 0, 0)]
  | 104 => [(.return_, 0, 0, 0, 0)]
  | _ => []
set_option maxRecDepth 20000 in
theorem ck_212 : ∀ t, chkL 212 t (bk_212 t) = true := by
  intro t
  unfold bk_212
  split <;> first | decide +kernel | rfl
def cu_212 : Nat → Option (List Nat) := fun t => match t with | 14 => some [0, 1, 2, 4, 6] | 36 => some [0, 1, 2, 4, 6, 7, 9] | _ => none
/-- SluiceLogsModel.parts()V -/
def bk_213 : Nat → List Ins := fun t => match t with
  | 0 => [(.aload_n 0, 0, 0, 0, 0), (.iconst 0, 0, 0, 0, 0), (.putfield 369, 9, 56, 3, 0), (.aload_n 0, 0, 0, 0, 0), (.lconst 1, 0, 0, 0, 0), (.putfield 372, 9, 57, 1, 0), (.iconst 0, 0, 0, 0, 0), (.istore_n 1, 1, 0, 0, 0)]
  | 12 => [(.iload_n 1, 1, 0, 0, 0), (.iconst 4, 0, 0, 0, 0), (.if_icmp .ge 16, 30, 0, 0, 0), (.aload_n 0, 0, 0, 0, 0), (.getfield 128, 9, 58, 2, 0), (.iload_n 1, 1, 0, 0, 0), (.lconst 0, 0, 0, 0, 0), (.lastore, 0, 0, 0, 0), (.iinc 1 1, 1, 0, 0, 0), (.goto (-15), 12, 0, 0, 0)]
  | 30 => [(.aload_n 0, 0, 0, 0, 0), (.getfield 46, 9, 23, 2, 0), (.aload_n 0, 0, 0, 0, 0), (.getfield 245, 9, 18, 0, 0), (.iaload, 0, 0, 0, 0), (.ifCond .ne 4, 43, 0, 0, 0), (.return_, 0, 0, 0, 0)]
  | 43 => [(.aload_n 0, 0, 0, 0, 0), (.invokevirtual 376, 206, 109, 0, 5), (.aload_n 0, 0, 0, 0, 0), (.iconst 1, 0, 0, 0, 0), (.invokevirtual 363, 207, 109, 1, 5), (.istore_n 1, 1, 0, 0, 0), (.aload_n 0, 0, 0, 0, 0), (.aload_n 0, 0, 0, 0, 0), (.iload_n 1, 1, 0, 0, 0), (.invokevirtual 379, 210, 109, 1, 3), (.putfield 369, 9, 56, 3, 0), (.aload_n 0, 0, 0, 0, 0), (.getfield 369, 9, 56, 0, 0), (.ifCond .eq 4, 70, 0, 0, 0), (.return_, 0, 0, 0, 0)]
  | 70 => [(.aload_n 0, 0, 0, 0, 0), (.iload_n 1, 1, 0, 0, 0), (.invokevirtual 382, 211, 109, 1, 4), (.iconst 0, 0, 0, 0, 0), (.istore_n 2, 2, 0, 0, 0)]
  | 77 => [(.iload_n 2, 2, 0, 0, 0), (.iconst 4, 0, 0, 0, 0), (.if_icmp .ge 33, 112, 0, 0, 0), (.aload_n 0, 0, 0, 0, 0), (.getfield 131, 9, 59, 2, 0), (.bipush 6, 0, 0, 0, 0), (.iload_n 2, 2, 0, 0, 0), (.imul, 0, 0, 0, 0), (.laload, 0, 0, 0, 0), (.lstore_n 3, 3, 0, 0, 0), (.aload_n 0, 0, 0, 0, 0), (.iload_n 2, 2, 0, 0, 0), (.aload_n 0, 0, 0, 0, 0), (.getfield 372, 9, 57, 1, 0), (.invokevirtual 385, 212, 109, 2, 10), (.aload_n 0, 0, 0, 0, 0), (.lload_n 3, 3, 0, 0, 0), (.putfield 372, 9, 57, 1, 0), (.iinc 2 1, 2, 0, 0, 0), (.goto (-32), 77, 0, 0, 0)]
  | 112 => [(.iconst 0, 0, 0, 0, 0), (.istore_n 2, 2, 0, 0, 0)]
  | 114 => [(.iload_n 2, 2, 0, 0, 0), (.iconst 4, 0, 0, 0, 0), (.if_icmp .ge 38, 154, 0, 0, 0), (.aload_n 0, 0, 0, 0, 0), (.getfield 128, 9, 58, 2, 0), (.iload_n 2, 2, 0, 0, 0), (.iload_n 1, 1, 0, 0, 0), (.iload_n 2, 2, 0, 0, 0), (.ishr, 0, 0, 0, 0), (.iconst 1, 0, 0, 0, 0), (.iand, 0, 0, 0, 0), (.iconst 1, 0, 0, 0, 0), (.if_icmp .ne 16, 146, 0, 0, 0), (.aload_n 0, 0, 0, 0, 0), (.getfield 131, 9, 59, 2, 0), (.iconst 5, 0, 0, 0, 0), (.iload_n 2, 2, 0, 0, 0), (.imul, 0, 0, 0, 0), (.iconst 4, 0, 0, 0, 0), (.iadd, 0, 0, 0, 0), (.laload, 0, 0, 0, 0), (.goto 4, 147, 0, 0, 0)]
  | 146 => [(.lconst 0, 0, 0, 0, 0)]
  | 147 => [(.lastore, 0, 0, 0, 0), (.iinc 2 1, 2, 0, 0, 0), (.goto (-37), 114, 0, 0, 0)]
  | 154 => [(.return_, 0, 0, 0, 0)]
  | _ => []
set_option maxRecDepth 20000 in
theorem ck_213 : ∀ t, chkL 213 t (bk_213 t) = true := by
  intro t
  unfold bk_213
  split <;> first | decide +kernel | rfl
def cu_213 : Nat → Option (List Nat) := fun t => match t with | 12 => some [0, 1] | 77 => some [0, 1, 2] | 114 => some [0, 1, 2] | _ => none
/-- SluiceLogsModel.common(JJ)J -/
def bk_214 : Nat → List Ins := fun t => match t with
  | 0 => [(.lload_n 0, 0, 0, 0, 0), (.lstore 4, 4, 0, 0, 0), (.lload_n 2, 2, 0, 0, 0), (.lstore 6, 6, 0, 0, 0)]
  | 6 => [(.lload 6, 6, 0, 0, 0), (.lconst 0, 0, 0, 0, 0), (.lcmp, 0, 0, 0, 0), (.ifCond .eq 21, 31, 0, 0, 0), (.lload 4, 4, 0, 0, 0), (.lload 6, 6, 0, 0, 0), (.lrem, 0, 0, 0, 0), (.lstore 8, 8, 0, 0, 0), (.lload 6, 6, 0, 0, 0), (.lstore 4, 4, 0, 0, 0), (.lload 8, 8, 0, 0, 0), (.lstore 6, 6, 0, 0, 0), (.goto (-22), 6, 0, 0, 0)]
  | 31 => [(.lload 4, 4, 0, 0, 0), (.lreturn, 0, 0, 0, 0)]
  | _ => []
set_option maxRecDepth 20000 in
theorem ck_214 : ∀ t, chkL 214 t (bk_214 t) = true := by
  intro t
  unfold bk_214
  split <;> first | decide +kernel | rfl
def cu_214 : Nat → Option (List Nat) := fun t => match t with | 6 => some [4, 6] | _ => none
/-- SluiceLogsModel.termOfTwo(JI)I -/
def bk_215 : Nat → List Ins := fun t => match t with
  | 0 => [(.aload_n 0, 0, 0, 0, 0), (.getfield 369, 9, 56, 0, 0), (.ifCond .eq 5, 9, 0, 0, 0), (.iconst 0, 0, 0, 0, 0), (.ireturn, 0, 0, 0, 0)]
  | 9 => [(.lload_n 1, 1, 0, 0, 0), (.aload_n 0, 0, 0, 0, 0), (.getfield 372, 9, 57, 1, 0), (.invokestatic 389, 214, 0, 2, 10), (.lstore 4, 4, 0, 0, 0), (.iload_n 3, 3, 0, 0, 0), (.ifCond .ne 7, 27, 0, 0, 0), (.lload_n 1, 1, 0, 0, 0), (.goto 7, 31, 0, 0, 0)]
  | 27 => [(.aload_n 0, 0, 0, 0, 0), (.getfield 372, 9, 57, 1, 0)]
  | 31 => [(.lload 4, 4, 0, 0, 0), (.ldiv, 0, 0, 0, 0), (.l2i, 0, 0, 0, 0), (.ireturn, 0, 0, 0, 0)]
  | _ => []
set_option maxRecDepth 20000 in
theorem ck_215 : ∀ t, chkL 215 t (bk_215 t) = true := by
  intro t
  unfold bk_215
  split <;> first | decide +kernel | rfl
def cu_215 : Nat → Option (List Nat) := fun _ => none
/-- SluiceLogsModel.logOver(I)J -/
def bk_216 : Nat → List Ins := fun t => match t with
  | 0 => [(.iconst 4, 0, 0, 0, 0), (.aload_n 0, 0, 0, 0, 0), (.getfield 122, 9, 54, 2, 0), (.iload_n 1, 1, 0, 0, 0), (.iaload, 0, 0, 0, 0), (.ifCond .ne 7, 14, 0, 0, 0), (.iconst 1, 0, 0, 0, 0), (.goto 9, 20, 0, 0, 0)]
  | 14 => [(.aload_n 0, 0, 0, 0, 0), (.getfield 122, 9, 54, 2, 0), (.iload_n 1, 1, 0, 0, 0), (.iaload, 0, 0, 0, 0)]
  | 20 => [(.imul, 0, 0, 0, 0), (.i2l, 0, 0, 0, 0), (.aload_n 0, 0, 0, 0, 0), (.getfield 128, 9, 58, 2, 0), (.iload_n 1, 1, 0, 0, 0), (.laload, 0, 0, 0, 0), (.lmul, 0, 0, 0, 0), (.lreturn, 0, 0, 0, 0)]
  | _ => []
set_option maxRecDepth 20000 in
theorem ck_216 : ∀ t, chkL 216 t (bk_216 t) = true := by
  intro t
  unfold bk_216
  split <;> first | decide +kernel | rfl
def cu_216 : Nat → Option (List Nat) := fun _ => none
/-- SluiceLogsModel.fieldOver(I)J -/
def bk_217 : Nat → List Ins := fun t => match t with
  | 0 => [(.lconst 0, 0, 0, 0, 0), (.lstore_n 2, 2, 0, 0, 0), (.iconst 0, 0, 0, 0, 0), (.istore 4, 4, 0, 0, 0)]
  | 5 => [(.iload 4, 4, 0, 0, 0), (.aload_n 0, 0, 0, 0, 0), (.getfield 61, 9, 28, 2, 0), (.aload_n 0, 0, 0, 0, 0), (.getfield 245, 9, 18, 0, 0), (.iaload, 0, 0, 0, 0), (.if_icmp .ge 46, 62, 0, 0, 0), (.aload_n 0, 0, 0, 0, 0), (.iload 4, 4, 0, 0, 0), (.invokevirtual 354, 199, 109, 1, 2), (.bipush 10, 0, 0, 0, 0), (.iload_n 1, 1, 0, 0, 0), (.iadd, 0, 0, 0, 0), (.if_icmp .ne 27, 56, 0, 0, 0), (.lload_n 2, 2, 0, 0, 0), (.iconst 4, 0, 0, 0, 0), (.aload_n 0, 0, 0, 0, 0), (.iload 4, 4, 0, 0, 0), (.invokevirtual 357, 200, 109, 1, 2), (.imul, 0, 0, 0, 0), (.i2l, 0, 0, 0, 0), (.aload_n 0, 0, 0, 0, 0), (.getfield 128, 9, 58, 2, 0), (.aload_n 0, 0, 0, 0, 0), (.iload 4, 4, 0, 0, 0), (.invokevirtual 351, 198, 109, 1, 2), (.laload, 0, 0, 0, 0), (.lmul, 0, 0, 0, 0), (.ladd, 0, 0, 0, 0), (.lstore_n 2, 2, 0, 0, 0)]
  | 56 => [(.iinc 4 1, 4, 0, 0, 0), (.goto (-54), 5, 0, 0, 0)]
  | 62 => [(.lload_n 2, 2, 0, 0, 0), (.lreturn, 0, 0, 0, 0)]
  | _ => []
set_option maxRecDepth 20000 in
theorem ck_217 : ∀ t, chkL 217 t (bk_217 t) = true := by
  intro t
  unfold bk_217
  split <;> first | decide +kernel | rfl
def cu_217 : Nat → Option (List Nat) := fun t => match t with | 5 => some [0, 1, 2, 4] | _ => none
/-- SluiceLogsModel.widthsTo(I)I -/
def bk_218 : Nat → List Ins := fun t => match t with
  | 0 => [(.iconst 0, 0, 0, 0, 0), (.istore_n 2, 2, 0, 0, 0), (.iconst 0, 0, 0, 0, 0), (.istore_n 3, 3, 0, 0, 0)]
  | 4 => [(.iload_n 3, 3, 0, 0, 0), (.aload_n 0, 0, 0, 0, 0), (.getfield 61, 9, 28, 2, 0), (.aload_n 0, 0, 0, 0, 0), (.getfield 245, 9, 18, 0, 0), (.iaload, 0, 0, 0, 0), (.if_icmp .ge 29, 43, 0, 0, 0), (.aload_n 0, 0, 0, 0, 0), (.iload_n 3, 3, 0, 0, 0), (.invokevirtual 354, 199, 109, 1, 2), (.bipush 10, 0, 0, 0, 0), (.iload_n 1, 1, 0, 0, 0), (.iadd, 0, 0, 0, 0), (.if_icmp .ne 11, 37, 0, 0, 0), (.iload_n 2, 2, 0, 0, 0), (.aload_n 0, 0, 0, 0, 0), (.iload_n 3, 3, 0, 0, 0), (.invokevirtual 357, 200, 109, 1, 2), (.iadd, 0, 0, 0, 0), (.istore_n 2, 2, 0, 0, 0)]
  | 37 => [(.iinc 3 1, 3, 0, 0, 0), (.goto (-36), 4, 0, 0, 0)]
  | 43 => [(.iload_n 2, 2, 0, 0, 0), (.ireturn, 0, 0, 0, 0)]
  | _ => []
set_option maxRecDepth 20000 in
theorem ck_218 : ∀ t, chkL 218 t (bk_218 t) = true := by
  intro t
  unfold bk_218
  split <;> first | decide +kernel | rfl
def cu_218 : Nat → Option (List Nat) := fun t => match t with | 4 => some [0, 1, 2, 3] | _ => none
/-- SluiceLogsModel.flowOf(I)I -/
def bk_219 : Nat → List Ins := fun t => match t with
  | 0 => [(.aload_n 0, 0, 0, 0, 0), (.getfield 369, 9, 56, 0, 0), (.ifCond .eq 7, 11, 0, 0, 0), (.iconst 0, 0, 0, 0, 0), (.goto 18, 26, 0, 0, 0)]
  | 11 => [(.ldc2_w 393, 100, 0, 0, 0), (.aload_n 0, 0, 0, 0, 0), (.iload_n 1, 1, 0, 0, 0), (.invokevirtual 395, 217, 109, 1, 5), (.lmul, 0, 0, 0, 0), (.aload_n 0, 0, 0, 0, 0), (.getfield 372, 9, 57, 1, 0), (.ldiv, 0, 0, 0, 0), (.l2i, 0, 0, 0, 0)]
  | 26 => [(.ireturn, 0, 0, 0, 0)]
  | _ => []
set_option maxRecDepth 20000 in
theorem ck_219 : ∀ t, chkL 219 t (bk_219 t) = true := by
  intro t
  unfold bk_219
  split <;> first | decide +kernel | rfl
def cu_219 : Nat → Option (List Nat) := fun _ => none
/-- SluiceLogsModel.lawTells(II)I -/
def bk_220 : Nat → List Ins := fun t => match t with
  | 0 => [(.iconst 4, 0, 0, 0, 0), (.aload_n 0, 0, 0, 0, 0), (.getfield 245, 9, 18, 0, 0), (.imul, 0, 0, 0, 0), (.iload_n 1, 1, 0, 0, 0), (.iadd, 0, 0, 0, 0), (.istore_n 3, 3, 0, 0, 0), (.aload_n 0, 0, 0, 0, 0), (.getfield 79, 9, 34, 2, 0), (.iload_n 3, 3, 0, 0, 0), (.iaload, 0, 0, 0, 0), (.aload_n 0, 0, 0, 0, 0), (.getfield 82, 9, 35, 2, 0), (.iload_n 3, 3, 0, 0, 0), (.iaload, 0, 0, 0, 0), (.if_icmp .ne 5, 26, 0, 0, 0), (.iload_n 2, 2, 0, 0, 0), (.ireturn, 0, 0, 0, 0)]
  | 26 => [(.aload_n 0, 0, 0, 0, 0), (.iconst 0, 0, 0, 0, 0), (.putfield 330, 9, 49, 3, 0), (.aload_n 0, 0, 0, 0, 0), (.getfield 79, 9, 34, 2, 0), (.iload_n 3, 3, 0, 0, 0), (.iaload, 0, 0, 0, 0), (.istore 4, 4, 0, 0, 0)]
  | 39 => [(.iload 4, 4, 0, 0, 0), (.aload_n 0, 0, 0, 0, 0), (.getfield 82, 9, 35, 2, 0), (.iload_n 3, 3, 0, 0, 0), (.iaload, 0, 0, 0, 0), (.if_icmp .ge 112, 159, 0, 0, 0), (.aload_n 0, 0, 0, 0, 0), (.getfield 85, 9, 37, 2, 0), (.iload 4, 4, 0, 0, 0), (.baload, 0, 0, 0, 0), (.ifCond .eq 62, 119, 0, 0, 0), (.aload_n 0, 0, 0, 0, 0), (.aload_n 0, 0, 0, 0, 0), (.getfield 89, 9, 38, 2, 0), (.iload 4, 4, 0, 0, 0), (.iaload, 0, 0, 0, 0), (.aload_n 0, 0, 0, 0, 0), (.getfield 92, 9, 39, 2, 0), (.iload 4, 4, 0, 0, 0), (.iaload, 0, 0, 0, 0), (.invokevirtual 399, 191, 109, 2, 8), (.istore 5, 5, 0, 0, 0), (.aload_n 0, 0, 0, 0, 0), (.aload_n 0, 0, 0, 0, 0), (.getfield 92, 9, 39, 2, 0), (.iload 4, 4, 0, 0, 0), (.iaload, 0, 0, 0, 0), (.aload_n 0, 0, 0, 0, 0), (.getfield 95, 9, 40, 2, 0), (.iload 4, 4, 0, 0, 0), (.iaload, 0, 0, 0, 0), (.invokevirtual 399, 191, 109, 2, 8), (.istore 6, 6, 0, 0, 0), (.aload_n 0, 0, 0, 0, 0), (.getfield 330, 9, 49, 0, 0), (.ifCond .eq 5, 109, 0, 0, 0), (.iconst 0, 0, 0, 0, 0), (.ireturn, 0, 0, 0, 0)]
  | 109 => [(.iload 5, 5, 0, 0, 0), (.iload 6, 6, 0, 0, 0), (.if_icmp .lt 6, 119, 0, 0, 0), (.goto 37, 153, 0, 0, 0)]
  | 119 => [(.aload_n 0, 0, 0, 0, 0), (.aload_n 0, 0, 0, 0, 0), (.getfield 95, 9, 40, 2, 0), (.iload 4, 4, 0, 0, 0), (.iaload, 0, 0, 0, 0), (.aload_n 0, 0, 0, 0, 0), (.getfield 98, 9, 41, 2, 0), (.iload 4, 4, 0, 0, 0), (.iaload, 0, 0, 0, 0), (.invokevirtual 399, 191, 109, 2, 8), (.istore 5, 5, 0, 0, 0), (.aload_n 0, 0, 0, 0, 0), (.getfield 330, 9, 49, 0, 0), (.ifCond .eq 7, 150, 0, 0, 0), (.iconst 0, 0, 0, 0, 0), (.goto 5, 152, 0, 0, 0)]
  | 150 => [(.iload 5, 5, 0, 0, 0)]
  | 152 => [(.ireturn, 0, 0, 0, 0)]
  | 153 => [(.iinc 4 1, 4, 0, 0, 0), (.goto (-117), 39, 0, 0, 0)]
  | 159 => [(.iconst 0, 0, 0, 0, 0), (.ireturn, 0, 0, 0, 0)]
  | _ => []
set_option maxRecDepth 20000 in
theorem ck_220 : ∀ t, chkL 220 t (bk_220 t) = true := by
  intro t
  unfold bk_220
  split <;> first | decide +kernel | rfl
def cu_220 : Nat → Option (List Nat) := fun t => match t with | 39 => some [0, 3, 4] | _ => none
/-- SluiceLogsModel.views(II)V -/
def bk_221 : Nat → List Ins := fun t => match t with
  | 0 => [(.aload_n 0, 0, 0, 0, 0), (.getfield 110, 9, 47, 2, 0), (.iconst 0, 0, 0, 0, 0), (.iconst 0, 0, 0, 0, 0), (.iastore, 0, 0, 0, 0), (.aload_n 0, 0, 0, 0, 0), (.getfield 110, 9, 47, 2, 0), (.iconst 1, 0, 0, 0, 0), (.iconst 0, 0, 0, 0, 0), (.iastore, 0, 0, 0, 0), (.aload_n 0, 0, 0, 0, 0), (.getfield 110, 9, 47, 2, 0), (.iconst 2, 0, 0, 0, 0), (.iload_n 2, 2, 0, 0, 0), (.iastore, 0, 0, 0, 0), (.aload_n 0, 0, 0, 0, 0), (.getfield 110, 9, 47, 2, 0), (.iconst 3, 0, 0, 0, 0), (.iconst 0, 0, 0, 0, 0), (.iastore, 0, 0, 0, 0), (.aload_n 0, 0, 0, 0, 0), (.getfield 110, 9, 47, 2, 0), (.iconst 4, 0, 0, 0, 0), (.aload_n 0, 0, 0, 0, 0), (.getfield 119, 9, 51, 2, 0), (.bipush 31, 0, 0, 0, 0), (.iaload, 0, 0, 0, 0), (.iastore, 0, 0, 0, 0), (.aload_n 0, 0, 0, 0, 0), (.getfield 110, 9, 47, 2, 0), (.iconst 5, 0, 0, 0, 0), (.iload_n 1, 1, 0, 0, 0), (.iastore, 0, 0, 0, 0), (.aload_n 0, 0, 0, 0, 0), (.getfield 110, 9, 47, 2, 0), (.bipush 6, 0, 0, 0, 0), (.iconst 0, 0, 0, 0, 0), (.iastore, 0, 0, 0, 0), (.aload_n 0, 0, 0, 0, 0), (.getfield 110, 9, 47, 2, 0), (.bipush 7, 0, 0, 0, 0), (.aload_n 0, 0, 0, 0, 0), (.getfield 46, 9, 23, 2, 0), (.aload_n 0, 0, 0, 0, 0), (.getfield 245, 9, 18, 0, 0), (.iaload, 0, 0, 0, 0), (.iastore, 0, 0, 0, 0), (.aload_n 0, 0, 0, 0, 0), (.getfield 110, 9, 47, 2, 0), (.bipush 8, 0, 0, 0, 0), (.aload_n 0, 0, 0, 0, 0), (.getfield 49, 9, 24, 2, 0), (.aload_n 0, 0, 0, 0, 0), (.getfield 245, 9, 18, 0, 0), (.iaload, 0, 0, 0, 0), (.iastore, 0, 0, 0, 0), (.return_, 0, 0, 0, 0)]
  | _ => []
set_option maxRecDepth 20000 in
theorem ck_221 : ∀ t, chkL 221 t (bk_221 t) = true := by
  intro t
  unfold bk_221
  split <;> first | decide +kernel | rfl
def cu_221 : Nat → Option (List Nat) := fun _ => none
/-- SluiceLogsModel.viewsField(I)V -/
def bk_222 : Nat → List Ins := fun t => match t with
  | 0 => [(.aload_n 0, 0, 0, 0, 0), (.iload_n 1, 1, 0, 0, 0), (.aload_n 0, 0, 0, 0, 0), (.iload_n 1, 1, 0, 0, 0), (.invokevirtual 402, 218, 109, 1, 4), (.invokevirtual 405, 221, 109, 2, 3), (.aload_n 0, 0, 0, 0, 0), (.getfield 110, 9, 47, 2, 0), (.iconst 0, 0, 0, 0, 0), (.aload_n 0, 0, 0, 0, 0), (.iload_n 1, 1, 0, 0, 0), (.invokevirtual 408, 219, 109, 1, 2), (.iastore, 0, 0, 0, 0), (.aload_n 0, 0, 0, 0, 0), (.getfield 110, 9, 47, 2, 0), (.iconst 1, 0, 0, 0, 0), (.aload_n 0, 0, 0, 0, 0), (.getfield 52, 9, 25, 2, 0), (.bipush 6, 0, 0, 0, 0), (.aload_n 0, 0, 0, 0, 0), (.getfield 245, 9, 18, 0, 0), (.imul, 0, 0, 0, 0), (.iload_n 1, 1, 0, 0, 0), (.iadd, 0, 0, 0, 0), (.iaload, 0, 0, 0, 0), (.iastore, 0, 0, 0, 0), (.aload_n 0, 0, 0, 0, 0), (.getfield 110, 9, 47, 2, 0), (.iconst 3, 0, 0, 0, 0), (.aload_n 0, 0, 0, 0, 0), (.getfield 119, 9, 51, 2, 0), (.bipush 12, 0, 0, 0, 0), (.iload_n 1, 1, 0, 0, 0), (.iadd, 0, 0, 0, 0), (.iaload, 0, 0, 0, 0), (.iastore, 0, 0, 0, 0), (.aload_n 0, 0, 0, 0, 0), (.getfield 110, 9, 47, 2, 0), (.bipush 6, 0, 0, 0, 0), (.aload_n 0, 0, 0, 0, 0), (.getfield 119, 9, 51, 2, 0), (.bipush 6, 0, 0, 0, 0), (.iload_n 1, 1, 0, 0, 0), (.iadd, 0, 0, 0, 0), (.iaload, 0, 0, 0, 0), (.iastore, 0, 0, 0, 0), (.return_, 0, 0, 0, 0)]
  | _ => []
set_option maxRecDepth 20000 in
theorem ck_222 : ∀ t, chkL 222 t (bk_222 t) = true := by
  intro t
  unfold bk_222
  split <;> first | decide +kernel | rfl
def cu_222 : Nat → Option (List Nat) := fun _ => none
/-- SluiceLogsModel.needsOf(I)I -/
def bk_223 : Nat → List Ins := fun t => match t with
  | 0 => [(.aload_n 0, 0, 0, 0, 0), (.iload_n 1, 1, 0, 0, 0), (.invokevirtual 411, 222, 109, 1, 2), (.aload_n 0, 0, 0, 0, 0), (.iconst 0, 0, 0, 0, 0), (.aload_n 0, 0, 0, 0, 0), (.getfield 110, 9, 47, 2, 0), (.iconst 1, 0, 0, 0, 0), (.iaload, 0, 0, 0, 0), (.invokevirtual 414, 220, 109, 2, 7), (.iconst 0, 0, 0, 0, 0), (.sipush 9999, 0, 0, 0, 0), (.invokestatic 417, 193, 0, 3, 3), (.ireturn, 0, 0, 0, 0)]
  | _ => []
set_option maxRecDepth 20000 in
theorem ck_223 : ∀ t, chkL 223 t (bk_223 t) = true := by
  intro t
  unfold bk_223
  split <;> first | decide +kernel | rfl
def cu_223 : Nat → Option (List Nat) := fun _ => none
/-- SluiceLogsModel.worthOf(I)I -/
def bk_224 : Nat → List Ins := fun t => match t with
  | 0 => [(.aload_n 0, 0, 0, 0, 0), (.iload_n 1, 1, 0, 0, 0), (.invokevirtual 411, 222, 109, 1, 2), (.aload_n 0, 0, 0, 0, 0), (.iconst 1, 0, 0, 0, 0), (.aload_n 0, 0, 0, 0, 0), (.getfield 110, 9, 47, 2, 0), (.iconst 0, 0, 0, 0, 0), (.iaload, 0, 0, 0, 0), (.invokevirtual 414, 220, 109, 2, 7), (.iconst 0, 0, 0, 0, 0), (.bipush 99, 0, 0, 0, 0), (.invokestatic 417, 193, 0, 3, 3), (.ireturn, 0, 0, 0, 0)]
  | _ => []
set_option maxRecDepth 20000 in
theorem ck_224 : ∀ t, chkL 224 t (bk_224 t) = true := by
  intro t
  unfold bk_224
  split <;> first | decide +kernel | rfl
def cu_224 : Nat → Option (List Nat) := fun _ => none
/-- SluiceLogsModel.costsOf(I)I -/
def bk_225 : Nat → List Ins := fun t => match t with
  | 0 => [(.aload_n 0, 0, 0, 0, 0), (.iload_n 1, 1, 0, 0, 0), (.aload_n 0, 0, 0, 0, 0), (.iload_n 1, 1, 0, 0, 0), (.invokevirtual 357, 200, 109, 1, 2), (.invokevirtual 405, 221, 109, 2, 3), (.aload_n 0, 0, 0, 0, 0), (.iconst 2, 0, 0, 0, 0), (.iconst 1, 0, 0, 0, 0), (.invokevirtual 414, 220, 109, 2, 7), (.iconst 0, 0, 0, 0, 0), (.bipush 99, 0, 0, 0, 0), (.invokestatic 417, 193, 0, 3, 3), (.ireturn, 0, 0, 0, 0)]
  | _ => []
set_option maxRecDepth 20000 in
theorem ck_225 : ∀ t, chkL 225 t (bk_225 t) = true := by
  intro t
  unfold bk_225
  split <;> first | decide +kernel | rfl
def cu_225 : Nat → Option (List Nat) := fun _ => none
/-- SluiceLogsModel.siltsOf(I)I -/
def bk_226 : Nat → List Ins := fun t => match t with
  | 0 => [(.aload_n 0, 0, 0, 0, 0), (.iload_n 1, 1, 0, 0, 0), (.aload_n 0, 0, 0, 0, 0), (.iload_n 1, 1, 0, 0, 0), (.invokevirtual 357, 200, 109, 1, 2), (.invokevirtual 405, 221, 109, 2, 3), (.aload_n 0, 0, 0, 0, 0), (.iconst 3, 0, 0, 0, 0), (.iconst 0, 0, 0, 0, 0), (.invokevirtual 414, 220, 109, 2, 7), (.iconst 0, 0, 0, 0, 0), (.bipush 100, 0, 0, 0, 0), (.invokestatic 417, 193, 0, 3, 3), (.ireturn, 0, 0, 0, 0)]
  | _ => []
set_option maxRecDepth 20000 in
theorem ck_226 : ∀ t, chkL 226 t (bk_226 t) = true := by
  intro t
  unfold bk_226
  split <;> first | decide +kernel | rfl
def cu_226 : Nat → Option (List Nat) := fun _ => none
/-- SluiceLogsModel.isLacking(I)Z -/
def bk_227 : Nat → List Ins := fun t => match t with
  | 0 => [(.aload_n 0, 0, 0, 0, 0), (.iload_n 1, 1, 0, 0, 0), (.invokevirtual 408, 219, 109, 1, 2), (.aload_n 0, 0, 0, 0, 0), (.iload_n 1, 1, 0, 0, 0), (.invokevirtual 420, 223, 109, 1, 2), (.if_icmp .ge 7, 17, 0, 0, 0), (.iconst 1, 0, 0, 0, 0), (.goto 4, 18, 0, 0, 0)]
  | 17 => [(.iconst 0, 0, 0, 0, 0)]
  | 18 => [(.ireturn, 3, 0, 0, 0)]
  | _ => []
set_option maxRecDepth 20000 in
theorem ck_227 : ∀ t, chkL 227 t (bk_227 t) = true := by
  intro t
  unfold bk_227
  split <;> first | decide +kernel | rfl
def cu_227 : Nat → Option (List Nat) := fun _ => none
/-- SluiceLogsModel.lackingBits()I -/
def bk_228 : Nat → List Ins := fun t => match t with
  | 0 => [(.iconst 0, 0, 0, 0, 0), (.istore_n 1, 1, 0, 0, 0), (.iconst 0, 0, 0, 0, 0), (.istore_n 2, 2, 0, 0, 0)]
  | 4 => [(.iload_n 2, 2, 0, 0, 0), (.aload_n 0, 0, 0, 0, 0), (.getfield 49, 9, 24, 2, 0), (.aload_n 0, 0, 0, 0, 0), (.getfield 245, 9, 18, 0, 0), (.iaload, 0, 0, 0, 0), (.if_icmp .ge 23, 37, 0, 0, 0), (.aload_n 0, 0, 0, 0, 0), (.iload_n 2, 2, 0, 0, 0), (.invokevirtual 423, 227, 109, 1, 2), (.ifCond .eq 9, 31, 0, 0, 0), (.iload_n 1, 1, 0, 0, 0), (.iconst 1, 0, 0, 0, 0), (.iload_n 2, 2, 0, 0, 0), (.ishl, 0, 0, 0, 0), (.ior, 0, 0, 0, 0), (.istore_n 1, 1, 0, 0, 0)]
  | 31 => [(.iinc 2 1, 2, 0, 0, 0), (.goto (-30), 4, 0, 0, 0)]
  | 37 => [(.iload_n 1, 1, 0, 0, 0), (.ireturn, 0, 0, 0, 0)]
  | _ => []
set_option maxRecDepth 20000 in
theorem ck_228 : ∀ t, chkL 228 t (bk_228 t) = true := by
  intro t
  unfold bk_228
  split <;> first | decide +kernel | rfl
def cu_228 : Nat → Option (List Nat) := fun t => match t with | 4 => some [0, 1, 2] | _ => none
/-- SluiceLogsModel.canStep(I)Z -/
def bk_229 : Nat → List Ins := fun t => match t with
  | 0 => [(.iload_n 1, 1, 0, 0, 0), (.iconst 0, 0, 0, 0, 0), (.iconst 2, 0, 0, 0, 0), (.aload_n 0, 0, 0, 0, 0), (.getfield 61, 9, 28, 2, 0), (.aload_n 0, 0, 0, 0, 0), (.getfield 245, 9, 18, 0, 0), (.iaload, 0, 0, 0, 0), (.imul, 0, 0, 0, 0), (.iconst 1, 0, 0, 0, 0), (.isub, 0, 0, 0, 0), (.invokestatic 334, 192, 0, 3, 3), (.ifCond .eq 38, 56, 0, 0, 0), (.iload_n 1, 1, 0, 0, 0), (.iconst 2, 0, 0, 0, 0), (.irem, 0, 0, 0, 0), (.iconst 1, 0, 0, 0, 0), (.if_icmp .ne 17, 42, 0, 0, 0), (.aload_n 0, 0, 0, 0, 0), (.iload_n 1, 1, 0, 0, 0), (.iconst 2, 0, 0, 0, 0), (.idiv, 0, 0, 0, 0), (.invokevirtual 357, 200, 109, 1, 2), (.iconst 3, 0, 0, 0, 0), (.if_icmp .ge 20, 56, 0, 0, 0), (.goto 13, 52, 0, 0, 0)]
  | 42 => [(.aload_n 0, 0, 0, 0, 0), (.iload_n 1, 1, 0, 0, 0), (.iconst 2, 0, 0, 0, 0), (.idiv, 0, 0, 0, 0), (.invokevirtual 357, 200, 109, 1, 2), (.ifCond .le 7, 56, 0, 0, 0)]
  | 52 => [(.iconst 1, 0, 0, 0, 0), (.goto 4, 57, 0, 0, 0)]
  | 56 => [(.iconst 0, 0, 0, 0, 0)]
  | 57 => [(.ireturn, 3, 0, 0, 0)]
  | _ => []
set_option maxRecDepth 20000 in
theorem ck_229 : ∀ t, chkL 229 t (bk_229 t) = true := by
  intro t
  unfold bk_229
  split <;> first | decide +kernel | rfl
def cu_229 : Nat → Option (List Nat) := fun _ => none
/-- SluiceLogsModel.steps(I)V -/
def bk_230 : Nat → List Ins := fun t => match t with
  | 0 => [(.aload_n 0, 0, 0, 0, 0), (.getfield 119, 9, 51, 2, 0), (.bipush 18, 0, 0, 0, 0), (.iload_n 1, 1, 0, 0, 0), (.iconst 2, 0, 0, 0, 0), (.idiv, 0, 0, 0, 0), (.iadd, 0, 0, 0, 0), (.dup2, 0, 0, 0, 0), (.iaload, 0, 0, 0, 0), (.iload_n 1, 1, 0, 0, 0), (.iconst 2, 0, 0, 0, 0), (.irem, 0, 0, 0, 0), (.iconst 1, 0, 0, 0, 0), (.if_icmp .ne 7, 23, 0, 0, 0), (.iconst 1, 0, 0, 0, 0), (.goto 4, 24, 0, 0, 0)]
  | 23 => [(.iconst (-1), 0, 0, 0, 0)]
  | 24 => [(.iadd, 0, 0, 0, 0), (.iastore, 0, 0, 0, 0), (.return_, 0, 0, 0, 0)]
  | _ => []
set_option maxRecDepth 20000 in
theorem ck_230 : ∀ t, chkL 230 t (bk_230 t) = true := by
  intro t
  unfold bk_230
  split <;> first | decide +kernel | rfl
def cu_230 : Nat → Option (List Nat) := fun _ => none
/-- SluiceLogsModel.canBits()I -/
def bk_231 : Nat → List Ins := fun t => match t with
  | 0 => [(.iconst 0, 0, 0, 0, 0), (.istore_n 1, 1, 0, 0, 0), (.iconst 0, 0, 0, 0, 0), (.istore_n 2, 2, 0, 0, 0)]
  | 4 => [(.iload_n 2, 2, 0, 0, 0), (.bipush 24, 0, 0, 0, 0), (.if_icmp .ge 23, 30, 0, 0, 0), (.aload_n 0, 0, 0, 0, 0), (.iload_n 2, 2, 0, 0, 0), (.invokevirtual 426, 229, 109, 1, 2), (.ifCond .eq 9, 24, 0, 0, 0), (.iload_n 1, 1, 0, 0, 0), (.iconst 1, 0, 0, 0, 0), (.iload_n 2, 2, 0, 0, 0), (.ishl, 0, 0, 0, 0), (.ior, 0, 0, 0, 0), (.istore_n 1, 1, 0, 0, 0)]
  | 24 => [(.iinc 2 1, 2, 0, 0, 0), (.goto (-23), 4, 0, 0, 0)]
  | 30 => [(.iload_n 1, 1, 0, 0, 0), (.ireturn, 0, 0, 0, 0)]
  | _ => []
set_option maxRecDepth 20000 in
theorem ck_231 : ∀ t, chkL 231 t (bk_231 t) = true := by
  intro t
  unfold bk_231
  split <;> first | decide +kernel | rfl
def cu_231 : Nat → Option (List Nat) := fun t => match t with | 4 => some [0, 1, 2] | _ => none
/-- SluiceLogsModel.dayGoes()V -/
def bk_232 : Nat → List Ins := fun t => match t with
  | 0 => [(.iconst 0, 0, 0, 0, 0), (.istore_n 1, 1, 0, 0, 0), (.iconst 0, 0, 0, 0, 0), (.istore_n 2, 2, 0, 0, 0)]
  | 4 => [(.iload_n 2, 2, 0, 0, 0), (.aload_n 0, 0, 0, 0, 0), (.getfield 49, 9, 24, 2, 0), (.aload_n 0, 0, 0, 0, 0), (.getfield 245, 9, 18, 0, 0), (.iaload, 0, 0, 0, 0), (.if_icmp .ge 20, 34, 0, 0, 0), (.aload_n 0, 0, 0, 0, 0), (.getfield 134, 9, 60, 2, 0), (.iload_n 2, 2, 0, 0, 0), (.aload_n 0, 0, 0, 0, 0), (.iload_n 2, 2, 0, 0, 0), (.invokevirtual 429, 224, 109, 1, 2), (.iastore, 0, 0, 0, 0), (.iinc 2 1, 2, 0, 0, 0), (.goto (-27), 4, 0, 0, 0)]
  | 34 => [(.iconst 0, 0, 0, 0, 0), (.istore_n 2, 2, 0, 0, 0)]
  | 36 => [(.iload_n 2, 2, 0, 0, 0), (.aload_n 0, 0, 0, 0, 0), (.getfield 61, 9, 28, 2, 0), (.aload_n 0, 0, 0, 0, 0), (.getfield 245, 9, 18, 0, 0), (.iaload, 0, 0, 0, 0), (.if_icmp .ge 54, 100, 0, 0, 0), (.aload_n 0, 0, 0, 0, 0), (.getfield 341, 9, 53, 0, 0), (.ifCond .ne 41, 94, 0, 0, 0), (.aload_n 0, 0, 0, 0, 0), (.iload_n 2, 2, 0, 0, 0), (.invokevirtual 357, 200, 109, 1, 2), (.ifCond .le 33, 94, 0, 0, 0), (.aload_n 0, 0, 0, 0, 0), (.bipush 16, 0, 0, 0, 0), (.aload_n 0, 0, 0, 0, 0), (.getfield 119, 9, 51, 2, 0), (.bipush 31, 0, 0, 0, 0), (.iaload, 0, 0, 0, 0), (.imul, 0, 0, 0, 0), (.iload_n 2, 2, 0, 0, 0), (.iadd, 0, 0, 0, 0), (.invokevirtual 432, 205, 109, 1, 2), (.aload_n 0, 0, 0, 0, 0), (.iload_n 2, 2, 0, 0, 0), (.invokevirtual 435, 226, 109, 1, 2), (.if_icmp .ge 9, 94, 0, 0, 0), (.iload_n 1, 1, 0, 0, 0), (.iconst 1, 0, 0, 0, 0), (.iload_n 2, 2, 0, 0, 0), (.ishl, 0, 0, 0, 0), (.ior, 0, 0, 0, 0), (.istore_n 1, 1, 0, 0, 0)]
  | 94 => [(.iinc 2 1, 2, 0, 0, 0), (.goto (-61), 36, 0, 0, 0)]
  | 100 => [(.iconst 0, 0, 0, 0, 0), (.istore_n 2, 2, 0, 0, 0)]
  | 102 => [(.iload_n 2, 2, 0, 0, 0), (.aload_n 0, 0, 0, 0, 0), (.getfield 49, 9, 24, 2, 0), (.aload_n 0, 0, 0, 0, 0), (.getfield 245, 9, 18, 0, 0), (.iaload, 0, 0, 0, 0), (.if_icmp .ge 41, 153, 0, 0, 0), (.aload_n 0, 0, 0, 0, 0), (.getfield 119, 9, 51, 2, 0), (.bipush 12, 0, 0, 0, 0), (.iload_n 2, 2, 0, 0, 0), (.iadd, 0, 0, 0, 0), (.aload_n 0, 0, 0, 0, 0), (.getfield 119, 9, 51, 2, 0), (.bipush 12, 0, 0, 0, 0), (.iload_n 2, 2, 0, 0, 0), (.iadd, 0, 0, 0, 0), (.iaload, 0, 0, 0, 0), (.aload_n 0, 0, 0, 0, 0), (.getfield 134, 9, 60, 2, 0), (.iload_n 2, 2, 0, 0, 0), (.iaload, 0, 0, 0, 0), (.iadd, 0, 0, 0, 0), (.iconst 0, 0, 0, 0, 0), (.sipush 9999, 0, 0, 0, 0), (.invokestatic 417, 193, 0, 3, 3), (.iastore, 0, 0, 0, 0), (.iinc 2 1, 2, 0, 0, 0), (.goto (-48), 102, 0, 0, 0)]
  | 153 => [(.iconst 0, 0, 0, 0, 0), (.istore_n 2, 2, 0, 0, 0)]
  | 155 => [(.iload_n 2, 2, 0, 0, 0), (.aload_n 0, 0, 0, 0, 0), (.getfield 61, 9, 28, 2, 0), (.aload_n 0, 0, 0, 0, 0), (.getfield 245, 9, 18, 0, 0), (.iaload, 0, 0, 0, 0), (.if_icmp .ge 26, 191, 0, 0, 0), (.aload_n 0, 0, 0, 0, 0), (.getfield 119, 9, 51, 2, 0), (.bipush 18, 0, 0, 0, 0), (.iload_n 2, 2, 0, 0, 0), (.iadd, 0, 0, 0, 0), (.dup2, 0, 0, 0, 0), (.iaload, 0, 0, 0, 0), (.iload_n 1, 1, 0, 0, 0), (.iload_n 2, 2, 0, 0, 0), (.ishr, 0, 0, 0, 0), (.iconst 1, 0, 0, 0, 0), (.iand, 0, 0, 0, 0), (.isub, 0, 0, 0, 0), (.iastore, 0, 0, 0, 0), (.iinc 2 1, 2, 0, 0, 0), (.goto (-33), 155, 0, 0, 0)]
  | 191 => [(.aload_n 0, 0, 0, 0, 0), (.getfield 119, 9, 51, 2, 0), (.bipush 31, 0, 0, 0, 0), (.dup2, 0, 0, 0, 0), (.iaload, 0, 0, 0, 0), (.iconst 1, 0, 0, 0, 0), (.iadd, 0, 0, 0, 0), (.iastore, 0, 0, 0, 0), (.iload_n 1, 1, 0, 0, 0), (.ifCond .eq 7, 210, 0, 0, 0), (.aload_n 0, 0, 0, 0, 0), (.invokevirtual 344, 213, 109, 0, 5)]
  | 210 => [(.return_, 0, 0, 0, 0)]
  | _ => []
set_option maxRecDepth 20000 in
theorem ck_232 : ∀ t, chkL 232 t (bk_232 t) = true := by
  intro t
  unfold bk_232
  split <;> first | decide +kernel | rfl
def cu_232 : Nat → Option (List Nat) := fun t => match t with | 4 => some [0, 1, 2] | 36 => some [0, 1, 2] | 102 => some [0, 1, 2] | 155 => some [0, 1, 2] | _ => none
/-- SluiceLogsModel.goes(I)V -/
def bk_233 : Nat → List Ins := fun t => match t with
  | 0 => [(.iconst 0, 0, 0, 0, 0), (.istore_n 2, 2, 0, 0, 0)]
  | 2 => [(.iload_n 2, 2, 0, 0, 0), (.iload_n 1, 1, 0, 0, 0), (.if_icmp .ge 13, 17, 0, 0, 0), (.aload_n 0, 0, 0, 0, 0), (.invokevirtual 438, 232, 109, 0, 3), (.iinc 2 1, 2, 0, 0, 0), (.goto (-12), 2, 0, 0, 0)]
  | 17 => [(.return_, 0, 0, 0, 0)]
  | _ => []
set_option maxRecDepth 20000 in
theorem ck_233 : ∀ t, chkL 233 t (bk_233 t) = true := by
  intro t
  unfold bk_233
  split <;> first | decide +kernel | rfl
def cu_233 : Nat → Option (List Nat) := fun t => match t with | 2 => some [0, 1, 2] | _ => none
/-- SluiceLogsModel.log(II)I -/
def bk_234 : Nat → List Ins := fun t => match t with
  | 0 => [(.aload_n 0, 0, 0, 0, 0), (.iload_n 1, 1, 0, 0, 0), (.invokevirtual 441, 195, 109, 1, 2), (.ifCond .ne 5, 10, 0, 0, 0), (.iconst (-1), 0, 0, 0, 0), (.ireturn, 0, 0, 0, 0)]
  | 10 => [(.aload_n 0, 0, 0, 0, 0), (.invokevirtual 444, 203, 109, 0, 2), (.aload_n 0, 0, 0, 0, 0), (.invokevirtual 376, 206, 109, 0, 5), (.iconst 0, 0, 0, 0, 0), (.istore_n 3, 3, 0, 0, 0), (.iload_n 2, 2, 0, 0, 0), (.tableswitch 102 0 3 #[31, 42, 53, 60], 0, 0, 0, 0)]
  | 52 => [(.aload_n 0, 0, 0, 0, 0), (.aload_n 0, 0, 0, 0, 0), (.iload_n 1, 1, 0, 0, 0), (.invokevirtual 447, 216, 109, 1, 2), (.iconst 0, 0, 0, 0, 0), (.invokevirtual 450, 215, 109, 2, 6), (.ireturn, 0, 0, 0, 0)]
  | 63 => [(.aload_n 0, 0, 0, 0, 0), (.aload_n 0, 0, 0, 0, 0), (.iload_n 1, 1, 0, 0, 0), (.invokevirtual 447, 216, 109, 1, 2), (.iconst 1, 0, 0, 0, 0), (.invokevirtual 450, 215, 109, 2, 6), (.ireturn, 0, 0, 0, 0)]
  | 74 => [(.aload_n 0, 0, 0, 0, 0), (.getfield 122, 9, 54, 2, 0), (.iload_n 1, 1, 0, 0, 0), (.iaload, 0, 0, 0, 0), (.ireturn, 0, 0, 0, 0)]
  | 81 => [(.iconst 0, 0, 0, 0, 0), (.istore 4, 4, 0, 0, 0)]
  | 84 => [(.iload 4, 4, 0, 0, 0), (.aload_n 0, 0, 0, 0, 0), (.getfield 61, 9, 28, 2, 0), (.aload_n 0, 0, 0, 0, 0), (.getfield 245, 9, 18, 0, 0), (.iaload, 0, 0, 0, 0), (.if_icmp .ge 26, 121, 0, 0, 0), (.aload_n 0, 0, 0, 0, 0), (.iload 4, 4, 0, 0, 0), (.invokevirtual 351, 198, 109, 1, 2), (.iload_n 1, 1, 0, 0, 0), (.if_icmp .ne 10, 115, 0, 0, 0), (.iload_n 3, 3, 0, 0, 0), (.iconst 1, 0, 0, 0, 0), (.iload 4, 4, 0, 0, 0), (.ishl, 0, 0, 0, 0), (.ior, 0, 0, 0, 0), (.istore_n 3, 3, 0, 0, 0)]
  | 115 => [(.iinc 4 1, 4, 0, 0, 0), (.goto (-34), 84, 0, 0, 0)]
  | 121 => [(.iload_n 3, 3, 0, 0, 0), (.ireturn, 0, 0, 0, 0)]
  | 123 => [(.iconst (-1), 0, 0, 0, 0), (.ireturn, 0, 0, 0, 0)]
  | _ => []
set_option maxRecDepth 20000 in
theorem ck_234 : ∀ t, chkL 234 t (bk_234 t) = true := by
  intro t
  unfold bk_234
  split <;> first | decide +kernel | rfl
def cu_234 : Nat → Option (List Nat) := fun t => match t with | 84 => some [0, 1, 3, 4] | _ => none
/-- SluiceLogsModel.field(II)I -/
def bk_235 : Nat → List Ins := fun t => match t with
  | 0 => [(.aload_n 0, 0, 0, 0, 0), (.iload_n 1, 1, 0, 0, 0), (.invokevirtual 454, 196, 109, 1, 2), (.ifCond .ne 5, 10, 0, 0, 0), (.iconst (-1), 0, 0, 0, 0), (.ireturn, 0, 0, 0, 0)]
  | 10 => [(.aload_n 0, 0, 0, 0, 0), (.invokevirtual 444, 203, 109, 0, 2), (.iload_n 2, 2, 0, 0, 0), (.tableswitch 141 0 9 #[53, 64, 75, 81, 96, 102, 108, 118, 128, 135], 0, 0, 0, 0)]
  | 68 => [(.aload_n 0, 0, 0, 0, 0), (.aload_n 0, 0, 0, 0, 0), (.iload_n 1, 1, 0, 0, 0), (.invokevirtual 395, 217, 109, 1, 5), (.iconst 0, 0, 0, 0, 0), (.invokevirtual 450, 215, 109, 2, 6), (.ireturn, 0, 0, 0, 0)]
  | 79 => [(.aload_n 0, 0, 0, 0, 0), (.aload_n 0, 0, 0, 0, 0), (.iload_n 1, 1, 0, 0, 0), (.invokevirtual 395, 217, 109, 1, 5), (.iconst 1, 0, 0, 0, 0), (.invokevirtual 450, 215, 109, 2, 6), (.ireturn, 0, 0, 0, 0)]
  | 90 => [(.aload_n 0, 0, 0, 0, 0), (.iload_n 1, 1, 0, 0, 0), (.invokevirtual 408, 219, 109, 1, 2), (.ireturn, 0, 0, 0, 0)]
  | 96 => [(.aload_n 0, 0, 0, 0, 0), (.getfield 52, 9, 25, 2, 0), (.bipush 6, 0, 0, 0, 0), (.aload_n 0, 0, 0, 0, 0), (.getfield 245, 9, 18, 0, 0), (.imul, 0, 0, 0, 0), (.iload_n 1, 1, 0, 0, 0), (.iadd, 0, 0, 0, 0), (.iaload, 0, 0, 0, 0), (.ireturn, 0, 0, 0, 0)]
  | 111 => [(.aload_n 0, 0, 0, 0, 0), (.iload_n 1, 1, 0, 0, 0), (.invokevirtual 420, 223, 109, 1, 2), (.ireturn, 0, 0, 0, 0)]
  | 117 => [(.aload_n 0, 0, 0, 0, 0), (.iload_n 1, 1, 0, 0, 0), (.invokevirtual 429, 224, 109, 1, 2), (.ireturn, 0, 0, 0, 0)]
  | 123 => [(.aload_n 0, 0, 0, 0, 0), (.getfield 119, 9, 51, 2, 0), (.bipush 12, 0, 0, 0, 0), (.iload_n 1, 1, 0, 0, 0), (.iadd, 0, 0, 0, 0), (.iaload, 0, 0, 0, 0), (.ireturn, 0, 0, 0, 0)]
  | 133 => [(.aload_n 0, 0, 0, 0, 0), (.getfield 119, 9, 51, 2, 0), (.bipush 6, 0, 0, 0, 0), (.iload_n 1, 1, 0, 0, 0), (.iadd, 0, 0, 0, 0), (.iaload, 0, 0, 0, 0), (.ireturn, 0, 0, 0, 0)]
  | 143 => [(.aload_n 0, 0, 0, 0, 0), (.getfield 119, 9, 51, 2, 0), (.iload_n 1, 1, 0, 0, 0), (.iaload, 0, 0, 0, 0), (.ireturn, 0, 0, 0, 0)]
  | 150 => [(.aload_n 0, 0, 0, 0, 0), (.iload_n 1, 1, 0, 0, 0), (.invokevirtual 402, 218, 109, 1, 4), (.ireturn, 0, 0, 0, 0)]
  | 156 => [(.iconst (-1), 0, 0, 0, 0), (.ireturn, 0, 0, 0, 0)]
  | _ => []
set_option maxRecDepth 20000 in
theorem ck_235 : ∀ t, chkL 235 t (bk_235 t) = true := by
  intro t
  unfold bk_235
  split <;> first | decide +kernel | rfl
def cu_235 : Nat → Option (List Nat) := fun _ => none
/-- SluiceLogsModel.notch(II)I -/
def bk_236 : Nat → List Ins := fun t => match t with
  | 0 => [(.aload_n 0, 0, 0, 0, 0), (.iload_n 1, 1, 0, 0, 0), (.invokevirtual 457, 197, 109, 1, 2), (.ifCond .ne 5, 10, 0, 0, 0), (.iconst (-1), 0, 0, 0, 0), (.ireturn, 0, 0, 0, 0)]
  | 10 => [(.aload_n 0, 0, 0, 0, 0), (.invokevirtual 444, 203, 109, 0, 2), (.iload_n 2, 2, 0, 0, 0), (.tableswitch 63 0 4 #[33, 39, 45, 51, 57], 0, 0, 0, 0)]
  | 48 => [(.aload_n 0, 0, 0, 0, 0), (.iload_n 1, 1, 0, 0, 0), (.invokevirtual 351, 198, 109, 1, 2), (.ireturn, 0, 0, 0, 0)]
  | 54 => [(.aload_n 0, 0, 0, 0, 0), (.iload_n 1, 1, 0, 0, 0), (.invokevirtual 354, 199, 109, 1, 2), (.ireturn, 0, 0, 0, 0)]
  | 60 => [(.aload_n 0, 0, 0, 0, 0), (.iload_n 1, 1, 0, 0, 0), (.invokevirtual 357, 200, 109, 1, 2), (.ireturn, 0, 0, 0, 0)]
  | 66 => [(.aload_n 0, 0, 0, 0, 0), (.iload_n 1, 1, 0, 0, 0), (.invokevirtual 460, 225, 109, 1, 2), (.ireturn, 0, 0, 0, 0)]
  | 72 => [(.aload_n 0, 0, 0, 0, 0), (.iload_n 1, 1, 0, 0, 0), (.invokevirtual 435, 226, 109, 1, 2), (.ireturn, 0, 0, 0, 0)]
  | 78 => [(.iconst (-1), 0, 0, 0, 0), (.ireturn, 0, 0, 0, 0)]
  | _ => []
set_option maxRecDepth 20000 in
theorem ck_236 : ∀ t, chkL 236 t (bk_236 t) = true := by
  intro t
  unfold bk_236
  split <;> first | decide +kernel | rfl
def cu_236 : Nat → Option (List Nat) := fun _ => none
/-- SluiceLogsModel.records()V -/
def bk_237 : Nat → List Ins := fun t => match t with
  | 0 => [(.aload_n 0, 0, 0, 0, 0), (.getfield 263, 9, 61, 0, 0), (.bipush 40, 0, 0, 0, 0), (.if_icmp .ne 43, 49, 0, 0, 0), (.iconst 0, 0, 0, 0, 0), (.istore_n 1, 1, 0, 0, 0)]
  | 11 => [(.iload_n 1, 1, 0, 0, 0), (.sipush 1287, 0, 0, 0, 0), (.if_icmp .ge 24, 39, 0, 0, 0), (.aload_n 0, 0, 0, 0, 0), (.getfield 137, 9, 62, 2, 0), (.iload_n 1, 1, 0, 0, 0), (.aload_n 0, 0, 0, 0, 0), (.getfield 137, 9, 62, 2, 0), (.iload_n 1, 1, 0, 0, 0), (.bipush 33, 0, 0, 0, 0), (.iadd, 0, 0, 0, 0), (.iaload, 0, 0, 0, 0), (.iastore, 0, 0, 0, 0), (.iinc 1 1, 1, 0, 0, 0), (.goto (-25), 11, 0, 0, 0)]
  | 39 => [(.aload_n 0, 0, 0, 0, 0), (.dup, 0, 0, 0, 0), (.getfield 263, 9, 61, 0, 0), (.iconst 1, 0, 0, 0, 0), (.isub, 0, 0, 0, 0), (.putfield 263, 9, 61, 0, 0)]
  | 49 => [(.iconst 0, 0, 0, 0, 0), (.istore_n 1, 1, 0, 0, 0)]
  | 51 => [(.iload_n 1, 1, 0, 0, 0), (.bipush 33, 0, 0, 0, 0), (.if_icmp .ge 29, 83, 0, 0, 0), (.aload_n 0, 0, 0, 0, 0), (.getfield 137, 9, 62, 2, 0), (.bipush 33, 0, 0, 0, 0), (.aload_n 0, 0, 0, 0, 0), (.getfield 263, 9, 61, 0, 0), (.imul, 0, 0, 0, 0), (.iload_n 1, 1, 0, 0, 0), (.iadd, 0, 0, 0, 0), (.aload_n 0, 0, 0, 0, 0), (.getfield 116, 9, 50, 2, 0), (.iload_n 1, 1, 0, 0, 0), (.iaload, 0, 0, 0, 0), (.iastore, 0, 0, 0, 0), (.iinc 1 1, 1, 0, 0, 0), (.goto (-29), 51, 0, 0, 0)]
  | 83 => [(.aload_n 0, 0, 0, 0, 0), (.dup, 0, 0, 0, 0), (.getfield 263, 9, 61, 0, 0), (.iconst 1, 0, 0, 0, 0), (.iadd, 0, 0, 0, 0), (.putfield 263, 9, 61, 0, 0), (.aload_n 0, 0, 0, 0, 0), (.invokevirtual 175, 202, 109, 0, 2), (.return_, 0, 0, 0, 0)]
  | _ => []
set_option maxRecDepth 20000 in
theorem ck_237 : ∀ t, chkL 237 t (bk_237 t) = true := by
  intro t
  unfold bk_237
  split <;> first | decide +kernel | rfl
def cu_237 : Nat → Option (List Nat) := fun t => match t with | 11 => some [0, 1] | 51 => some [0, 1] | _ => none
/-- SluiceLogsModel.stepOf(IZ)I -/
def bk_238 : Nat → List Ins := fun t => match t with
  | 0 => [(.iconst 2, 0, 0, 0, 0), (.iload_n 0, 0, 0, 0, 0), (.imul, 0, 0, 0, 0), (.iload_n 1, 1, 0, 0, 0), (.ifCond .eq 7, 11, 0, 0, 0), (.iconst 1, 0, 0, 0, 0), (.goto 4, 12, 0, 0, 0)]
  | 11 => [(.iconst 0, 0, 0, 0, 0)]
  | 12 => [(.iadd, 0, 0, 0, 0), (.ireturn, 0, 0, 0, 0)]
  | _ => []
set_option maxRecDepth 20000 in
theorem ck_238 : ∀ t, chkL 238 t (bk_238 t) = true := by
  intro t
  unfold bk_238
  split <;> first | decide +kernel | rfl
def cu_238 : Nat → Option (List Nat) := fun _ => none
/-- SluiceLogsModel.step(IZ)I -/
def bk_239 : Nat → List Ins := fun t => match t with
  | 0 => [(.aload_n 0, 0, 0, 0, 0), (.invokevirtual 444, 203, 109, 0, 2), (.aload_n 0, 0, 0, 0, 0), (.iload_n 1, 1, 0, 0, 0), (.invokevirtual 457, 197, 109, 1, 2), (.ifCond .eq 15, 24, 0, 0, 0), (.aload_n 0, 0, 0, 0, 0), (.iload_n 1, 1, 0, 0, 0), (.iload_n 2, 2, 0, 0, 0), (.invokestatic 463, 238, 0, 2, 2), (.invokevirtual 426, 229, 109, 1, 2), (.ifCond .ne 5, 26, 0, 0, 0)]
  | 24 => [(.iconst (-1), 0, 0, 0, 0), (.ireturn, 0, 0, 0, 0)]
  | 26 => [(.aload_n 0, 0, 0, 0, 0), (.iload_n 1, 1, 0, 0, 0), (.invokevirtual 460, 225, 109, 1, 2), (.istore_n 3, 3, 0, 0, 0), (.aload_n 0, 0, 0, 0, 0), (.iload_n 1, 1, 0, 0, 0), (.iload_n 2, 2, 0, 0, 0), (.invokestatic 463, 238, 0, 2, 2), (.invokevirtual 467, 230, 109, 1, 2), (.aload_n 0, 0, 0, 0, 0), (.getfield 119, 9, 51, 2, 0), (.bipush 32, 0, 0, 0, 0), (.dup2, 0, 0, 0, 0), (.iaload, 0, 0, 0, 0), (.iload_n 3, 3, 0, 0, 0), (.iadd, 0, 0, 0, 0), (.iastore, 0, 0, 0, 0), (.aload_n 0, 0, 0, 0, 0), (.invokevirtual 470, 237, 109, 0, 2), (.iload_n 3, 3, 0, 0, 0), (.ireturn, 0, 0, 0, 0)]
  | _ => []
set_option maxRecDepth 20000 in
theorem ck_239 : ∀ t, chkL 239 t (bk_239 t) = true := by
  intro t
  unfold bk_239
  split <;> first | decide +kernel | rfl
def cu_239 : Nat → Option (List Nat) := fun _ => none
/-- SluiceLogsModel.drain(III)Z -/
def bk_240 : Nat → List Ins := fun t => match t with
  | 0 => [(.aload_n 0, 0, 0, 0, 0), (.iload_n 1, 1, 0, 0, 0), (.invokevirtual 454, 196, 109, 1, 2), (.ifCond .eq 43, 48, 0, 0, 0), (.aload_n 0, 0, 0, 0, 0), (.iload_n 2, 2, 0, 0, 0), (.invokevirtual 441, 195, 109, 1, 2), (.ifCond .eq 35, 48, 0, 0, 0), (.iload_n 3, 3, 0, 0, 0), (.iconst 0, 0, 0, 0, 0), (.iconst 3, 0, 0, 0, 0), (.invokestatic 334, 192, 0, 3, 3), (.ifCond .eq 26, 48, 0, 0, 0), (.aload_n 0, 0, 0, 0, 0), (.getfield 116, 9, 50, 2, 0), (.iload_n 1, 1, 0, 0, 0), (.iaload, 0, 0, 0, 0), (.iload_n 2, 2, 0, 0, 0), (.if_icmp .ne 18, 50, 0, 0, 0), (.aload_n 0, 0, 0, 0, 0), (.getfield 116, 9, 50, 2, 0), (.bipush 6, 0, 0, 0, 0), (.iload_n 1, 1, 0, 0, 0), (.iadd, 0, 0, 0, 0), (.iaload, 0, 0, 0, 0), (.iload_n 3, 3, 0, 0, 0), (.if_icmp .ne 5, 50, 0, 0, 0)]
  | 48 => [(.iconst 0, 0, 0, 0, 0), (.ireturn, 3, 0, 0, 0)]
  | 50 => [(.aload_n 0, 0, 0, 0, 0), (.invokevirtual 444, 203, 109, 0, 2), (.aload_n 0, 0, 0, 0, 0), (.getfield 119, 9, 51, 2, 0), (.iload_n 1, 1, 0, 0, 0), (.iload_n 2, 2, 0, 0, 0), (.iastore, 0, 0, 0, 0), (.aload_n 0, 0, 0, 0, 0), (.getfield 119, 9, 51, 2, 0), (.bipush 6, 0, 0, 0, 0), (.iload_n 1, 1, 0, 0, 0), (.iadd, 0, 0, 0, 0), (.iload_n 3, 3, 0, 0, 0), (.iastore, 0, 0, 0, 0), (.aload_n 0, 0, 0, 0, 0), (.invokevirtual 470, 237, 109, 0, 2), (.iconst 1, 0, 0, 0, 0), (.ireturn, 3, 0, 0, 0)]
  | _ => []
set_option maxRecDepth 20000 in
theorem ck_240 : ∀ t, chkL 240 t (bk_240 t) = true := by
  intro t
  unfold bk_240
  split <;> first | decide +kernel | rfl
def cu_240 : Nat → Option (List Nat) := fun _ => none
/-- SluiceLogsModel.spring(I)Z -/
def bk_241 : Nat → List Ins := fun t => match t with
  | 0 => [(.iload_n 1, 1, 0, 0, 0), (.iconst 1, 0, 0, 0, 0), (.bipush 9, 0, 0, 0, 0), (.invokestatic 334, 192, 0, 3, 3), (.ifCond .eq 14, 21, 0, 0, 0), (.aload_n 0, 0, 0, 0, 0), (.getfield 116, 9, 50, 2, 0), (.bipush 30, 0, 0, 0, 0), (.iaload, 0, 0, 0, 0), (.iload_n 1, 1, 0, 0, 0), (.if_icmp .ne 5, 23, 0, 0, 0)]
  | 21 => [(.iconst 0, 0, 0, 0, 0), (.ireturn, 3, 0, 0, 0)]
  | 23 => [(.aload_n 0, 0, 0, 0, 0), (.invokevirtual 444, 203, 109, 0, 2), (.aload_n 0, 0, 0, 0, 0), (.getfield 119, 9, 51, 2, 0), (.bipush 30, 0, 0, 0, 0), (.iload_n 1, 1, 0, 0, 0), (.iastore, 0, 0, 0, 0), (.aload_n 0, 0, 0, 0, 0), (.invokevirtual 470, 237, 109, 0, 2), (.iconst 1, 0, 0, 0, 0), (.ireturn, 3, 0, 0, 0)]
  | _ => []
set_option maxRecDepth 20000 in
theorem ck_241 : ∀ t, chkL 241 t (bk_241 t) = true := by
  intro t
  unfold bk_241
  split <;> first | decide +kernel | rfl
def cu_241 : Nat → Option (List Nat) := fun _ => none
/-- SluiceLogsModel.isLong(I)Z -/
def bk_242 : Nat → List Ins := fun t => match t with
  | 0 => [(.iload_n 0, 0, 0, 0, 0), (.iconst 0, 0, 0, 0, 0), (.bipush 60, 0, 0, 0, 0), (.invokestatic 334, 192, 0, 3, 3), (.ireturn, 3, 0, 0, 0)]
  | _ => []
set_option maxRecDepth 20000 in
theorem ck_242 : ∀ t, chkL 242 t (bk_242 t) = true := by
  intro t
  unfold bk_242
  split <;> first | decide +kernel | rfl
def cu_242 : Nat → Option (List Nat) := fun _ => none
/-- SluiceLogsModel.days(I)I -/
def bk_243 : Nat → List Ins := fun t => match t with
  | 0 => [(.iload_n 1, 1, 0, 0, 0), (.invokestatic 473, 242, 0, 1, 1), (.ifCond .ne 5, 9, 0, 0, 0), (.iconst (-1), 0, 0, 0, 0), (.ireturn, 0, 0, 0, 0)]
  | 9 => [(.iload_n 1, 1, 0, 0, 0), (.ifCond .ne 11, 21, 0, 0, 0), (.aload_n 0, 0, 0, 0, 0), (.getfield 116, 9, 50, 2, 0), (.bipush 31, 0, 0, 0, 0), (.iaload, 0, 0, 0, 0), (.ireturn, 0, 0, 0, 0)]
  | 21 => [(.aload_n 0, 0, 0, 0, 0), (.invokevirtual 444, 203, 109, 0, 2), (.aload_n 0, 0, 0, 0, 0), (.iload_n 1, 1, 0, 0, 0), (.invokevirtual 476, 233, 109, 1, 3), (.aload_n 0, 0, 0, 0, 0), (.invokevirtual 470, 237, 109, 0, 2), (.aload_n 0, 0, 0, 0, 0), (.getfield 116, 9, 50, 2, 0), (.bipush 31, 0, 0, 0, 0), (.iaload, 0, 0, 0, 0), (.ireturn, 0, 0, 0, 0)]
  | _ => []
set_option maxRecDepth 20000 in
theorem ck_243 : ∀ t, chkL 243 t (bk_243 t) = true := by
  intro t
  unfold bk_243
  split <;> first | decide +kernel | rfl
def cu_243 : Nat → Option (List Nat) := fun _ => none
/-- SluiceLogsModel.undo()Z -/
def bk_244 : Nat → List Ins := fun t => match t with
  | 0 => [(.aload_n 0, 0, 0, 0, 0), (.getfield 263, 9, 61, 0, 0), (.ifCond .ne 5, 9, 0, 0, 0), (.iconst 0, 0, 0, 0, 0), (.ireturn, 3, 0, 0, 0)]
  | 9 => [(.aload_n 0, 0, 0, 0, 0), (.dup, 0, 0, 0, 0), (.getfield 263, 9, 61, 0, 0), (.iconst 1, 0, 0, 0, 0), (.isub, 0, 0, 0, 0), (.putfield 263, 9, 61, 0, 0), (.iconst 0, 0, 0, 0, 0), (.istore_n 1, 1, 0, 0, 0)]
  | 21 => [(.iload_n 1, 1, 0, 0, 0), (.bipush 33, 0, 0, 0, 0), (.if_icmp .ge 29, 53, 0, 0, 0), (.aload_n 0, 0, 0, 0, 0), (.getfield 116, 9, 50, 2, 0), (.iload_n 1, 1, 0, 0, 0), (.aload_n 0, 0, 0, 0, 0), (.getfield 137, 9, 62, 2, 0), (.bipush 33, 0, 0, 0, 0), (.aload_n 0, 0, 0, 0, 0), (.getfield 263, 9, 61, 0, 0), (.imul, 0, 0, 0, 0), (.iload_n 1, 1, 0, 0, 0), (.iadd, 0, 0, 0, 0), (.iaload, 0, 0, 0, 0), (.iastore, 0, 0, 0, 0), (.iinc 1 1, 1, 0, 0, 0), (.goto (-29), 21, 0, 0, 0)]
  | 53 => [(.iconst 1, 0, 0, 0, 0), (.ireturn, 3, 0, 0, 0)]
  | _ => []
set_option maxRecDepth 20000 in
theorem ck_244 : ∀ t, chkL 244 t (bk_244 t) = true := by
  intro t
  unfold bk_244
  split <;> first | decide +kernel | rfl
def cu_244 : Nat → Option (List Nat) := fun t => match t with | 21 => some [0, 1] | _ => none
/-- SluiceLogsModel.riverOver()J -/
def bk_245 : Nat → List Ins := fun t => match t with
  | 0 => [(.lconst 0, 0, 0, 0, 0), (.lstore_n 1, 1, 0, 0, 0), (.iconst 0, 0, 0, 0, 0), (.istore_n 3, 3, 0, 0, 0)]
  | 4 => [(.iload_n 3, 3, 0, 0, 0), (.aload_n 0, 0, 0, 0, 0), (.getfield 46, 9, 23, 2, 0), (.aload_n 0, 0, 0, 0, 0), (.getfield 245, 9, 18, 0, 0), (.iaload, 0, 0, 0, 0), (.if_icmp .ge 26, 40, 0, 0, 0), (.aload_n 0, 0, 0, 0, 0), (.getfield 122, 9, 54, 2, 0), (.iload_n 3, 3, 0, 0, 0), (.iaload, 0, 0, 0, 0), (.ifCond .ne 11, 34, 0, 0, 0), (.lload_n 1, 1, 0, 0, 0), (.aload_n 0, 0, 0, 0, 0), (.iload_n 3, 3, 0, 0, 0), (.invokevirtual 447, 216, 109, 1, 2), (.ladd, 0, 0, 0, 0), (.lstore_n 1, 1, 0, 0, 0)]
  | 34 => [(.iinc 3 1, 3, 0, 0, 0), (.goto (-33), 4, 0, 0, 0)]
  | 40 => [(.iconst 0, 0, 0, 0, 0), (.istore_n 3, 3, 0, 0, 0)]
  | 42 => [(.iload_n 3, 3, 0, 0, 0), (.aload_n 0, 0, 0, 0, 0), (.getfield 61, 9, 28, 2, 0), (.aload_n 0, 0, 0, 0, 0), (.getfield 245, 9, 18, 0, 0), (.iaload, 0, 0, 0, 0), (.if_icmp .ge 41, 93, 0, 0, 0), (.aload_n 0, 0, 0, 0, 0), (.iload_n 3, 3, 0, 0, 0), (.invokevirtual 354, 199, 109, 1, 2), (.bipush 20, 0, 0, 0, 0), (.if_icmp .ne 25, 87, 0, 0, 0), (.lload_n 1, 1, 0, 0, 0), (.iconst 4, 0, 0, 0, 0), (.aload_n 0, 0, 0, 0, 0), (.iload_n 3, 3, 0, 0, 0), (.invokevirtual 357, 200, 109, 1, 2), (.imul, 0, 0, 0, 0), (.i2l, 0, 0, 0, 0), (.aload_n 0, 0, 0, 0, 0), (.getfield 128, 9, 58, 2, 0), (.aload_n 0, 0, 0, 0, 0), (.iload_n 3, 3, 0, 0, 0), (.invokevirtual 351, 198, 109, 1, 2), (.laload, 0, 0, 0, 0), (.lmul, 0, 0, 0, 0), (.ladd, 0, 0, 0, 0), (.lstore_n 1, 1, 0, 0, 0)]
  | 87 => [(.iinc 3 1, 3, 0, 0, 0), (.goto (-48), 42, 0, 0, 0)]
  | 93 => [(.aload_n 0, 0, 0, 0, 0), (.getfield 46, 9, 23, 2, 0), (.aload_n 0, 0, 0, 0, 0), (.getfield 245, 9, 18, 0, 0), (.iaload, 0, 0, 0, 0), (.ifCond .ne 14, 116, 0, 0, 0), (.aload_n 0, 0, 0, 0, 0), (.getfield 119, 9, 51, 2, 0), (.bipush 30, 0, 0, 0, 0), (.iaload, 0, 0, 0, 0), (.i2l, 0, 0, 0, 0), (.goto 4, 117, 0, 0, 0)]
  | 116 => [(.lload_n 1, 1, 0, 0, 0)]
  | 117 => [(.lreturn, 0, 0, 0, 0)]
  | _ => []
set_option maxRecDepth 20000 in
theorem ck_245 : ∀ t, chkL 245 t (bk_245 t) = true := by
  intro t
  unfold bk_245
  split <;> first | decide +kernel | rfl
def cu_245 : Nat → Option (List Nat) := fun t => match t with | 4 => some [0, 1, 3] | 42 => some [0, 1, 3] | _ => none
/-- SluiceLogsModel.quartersOver(I)J -/
def bk_246 : Nat → List Ins := fun t => match t with
  | 0 => [(.lconst 0, 0, 0, 0, 0), (.lstore_n 2, 2, 0, 0, 0), (.iconst 0, 0, 0, 0, 0), (.istore 4, 4, 0, 0, 0)]
  | 5 => [(.iload 4, 4, 0, 0, 0), (.aload_n 0, 0, 0, 0, 0), (.getfield 49, 9, 24, 2, 0), (.aload_n 0, 0, 0, 0, 0), (.getfield 245, 9, 18, 0, 0), (.iaload, 0, 0, 0, 0), (.if_icmp .ge 53, 69, 0, 0, 0), (.lload_n 2, 2, 0, 0, 0), (.aload_n 0, 0, 0, 0, 0), (.iload 4, 4, 0, 0, 0), (.invokevirtual 395, 217, 109, 1, 5), (.ldc2_w 479, 4, 0, 0, 0), (.ldiv, 0, 0, 0, 0), (.iload_n 1, 1, 0, 0, 0), (.ifCond .ne 16, 47, 0, 0, 0), (.aload_n 0, 0, 0, 0, 0), (.getfield 119, 9, 51, 2, 0), (.bipush 6, 0, 0, 0, 0), (.iload 4, 4, 0, 0, 0), (.iadd, 0, 0, 0, 0), (.iaload, 0, 0, 0, 0), (.goto 15, 59, 0, 0, 0)]
  | 47 => [(.iload_n 1, 1, 0, 0, 0), (.aload_n 0, 0, 0, 0, 0), (.getfield 119, 9, 51, 2, 0), (.bipush 6, 0, 0, 0, 0), (.iload 4, 4, 0, 0, 0), (.iadd, 0, 0, 0, 0), (.iaload, 0, 0, 0, 0), (.isub, 0, 0, 0, 0)]
  | 59 => [(.i2l, 0, 0, 0, 0), (.lmul, 0, 0, 0, 0), (.ladd, 0, 0, 0, 0), (.lstore_n 2, 2, 0, 0, 0), (.iinc 4 1, 4, 0, 0, 0), (.goto (-61), 5, 0, 0, 0)]
  | 69 => [(.lload_n 2, 2, 0, 0, 0), (.lreturn, 0, 0, 0, 0)]
  | _ => []
set_option maxRecDepth 20000 in
theorem ck_246 : ∀ t, chkL 246 t (bk_246 t) = true := by
  intro t
  unfold bk_246
  split <;> first | decide +kernel | rfl
def cu_246 : Nat → Option (List Nat) := fun t => match t with | 5 => some [0, 1, 2, 4] | _ => none
/-- SluiceLogsModel.river(I)I -/
def bk_247 : Nat → List Ins := fun t => match t with
  | 0 => [(.iload_n 1, 1, 0, 0, 0), (.iconst 0, 0, 0, 0, 0), (.iconst 3, 0, 0, 0, 0), (.invokestatic 334, 192, 0, 3, 3), (.ifCond .ne 5, 11, 0, 0, 0), (.iconst (-1), 0, 0, 0, 0), (.ireturn, 0, 0, 0, 0)]
  | 11 => [(.aload_n 0, 0, 0, 0, 0), (.invokevirtual 444, 203, 109, 0, 2), (.aload_n 0, 0, 0, 0, 0), (.iload_n 1, 1, 0, 0, 0), (.iconst 2, 0, 0, 0, 0), (.if_icmp .ge 10, 28, 0, 0, 0), (.aload_n 0, 0, 0, 0, 0), (.invokevirtual 481, 245, 109, 0, 4), (.goto 8, 33, 0, 0, 0)]
  | 28 => [(.aload_n 0, 0, 0, 0, 0), (.iconst 4, 0, 0, 0, 0), (.invokevirtual 485, 246, 109, 1, 5)]
  | 33 => [(.iload_n 1, 1, 0, 0, 0), (.iconst 2, 0, 0, 0, 0), (.irem, 0, 0, 0, 0), (.invokevirtual 450, 215, 109, 2, 6), (.ireturn, 0, 0, 0, 0)]
  | _ => []
set_option maxRecDepth 20000 in
theorem ck_247 : ∀ t, chkL 247 t (bk_247 t) = true := by
  intro t
  unfold bk_247
  split <;> first | decide +kernel | rfl
def cu_247 : Nat → Option (List Nat) := fun _ => none
/-- SluiceLogsModel.round()I -/
def bk_248 : Nat → List Ins := fun t => match t with
  | 0 => [(.aload_n 0, 0, 0, 0, 0), (.invokevirtual 444, 203, 109, 0, 2), (.aload_n 0, 0, 0, 0, 0), (.getfield 369, 9, 56, 0, 0), (.ifCond .eq 7, 15, 0, 0, 0), (.iconst 0, 0, 0, 0, 0), (.goto 18, 30, 0, 0, 0)]
  | 15 => [(.ldc2_w 393, 100, 0, 0, 0), (.aload_n 0, 0, 0, 0, 0), (.iconst 0, 0, 0, 0, 0), (.invokevirtual 485, 246, 109, 1, 5), (.lmul, 0, 0, 0, 0), (.aload_n 0, 0, 0, 0, 0), (.getfield 372, 9, 57, 1, 0), (.ldiv, 0, 0, 0, 0), (.l2i, 0, 0, 0, 0)]
  | 30 => [(.ireturn, 0, 0, 0, 0)]
  | _ => []
set_option maxRecDepth 20000 in
theorem ck_248 : ∀ t, chkL 248 t (bk_248 t) = true := by
  intro t
  unfold bk_248
  split <;> first | decide +kernel | rfl
def cu_248 : Nat → Option (List Nat) := fun _ => none
/-- SluiceLogsModel.lacking()I -/
def bk_249 : Nat → List Ins := fun t => match t with
  | 0 => [(.aload_n 0, 0, 0, 0, 0), (.invokevirtual 444, 203, 109, 0, 2), (.aload_n 0, 0, 0, 0, 0), (.invokevirtual 488, 228, 109, 0, 3), (.ireturn, 0, 0, 0, 0)]
  | _ => []
set_option maxRecDepth 20000 in
theorem ck_249 : ∀ t, chkL 249 t (bk_249 t) = true := by
  intro t
  unfold bk_249
  split <;> first | decide +kernel | rfl
def cu_249 : Nat → Option (List Nat) := fun _ => none
/-- SluiceLogsModel.dry()I -/
def bk_250 : Nat → List Ins := fun t => match t with
  | 0 => [(.aload_n 0, 0, 0, 0, 0), (.invokevirtual 444, 203, 109, 0, 2), (.iconst 0, 0, 0, 0, 0), (.istore_n 1, 1, 0, 0, 0), (.iconst 0, 0, 0, 0, 0), (.istore_n 2, 2, 0, 0, 0)]
  | 8 => [(.iload_n 2, 2, 0, 0, 0), (.aload_n 0, 0, 0, 0, 0), (.getfield 49, 9, 24, 2, 0), (.aload_n 0, 0, 0, 0, 0), (.getfield 245, 9, 18, 0, 0), (.iaload, 0, 0, 0, 0), (.if_icmp .ge 32, 50, 0, 0, 0), (.aload_n 0, 0, 0, 0, 0), (.getfield 369, 9, 56, 0, 0), (.ifCond .ne 25, 50, 0, 0, 0), (.aload_n 0, 0, 0, 0, 0), (.iload_n 2, 2, 0, 0, 0), (.invokevirtual 395, 217, 109, 1, 5), (.lconst 0, 0, 0, 0, 0), (.lcmp, 0, 0, 0, 0), (.ifCond .ne 9, 44, 0, 0, 0), (.iload_n 1, 1, 0, 0, 0), (.iconst 1, 0, 0, 0, 0), (.iload_n 2, 2, 0, 0, 0), (.ishl, 0, 0, 0, 0), (.ior, 0, 0, 0, 0), (.istore_n 1, 1, 0, 0, 0)]
  | 44 => [(.iinc 2 1, 2, 0, 0, 0), (.goto (-39), 8, 0, 0, 0)]
  | 50 => [(.iload_n 1, 1, 0, 0, 0), (.ireturn, 0, 0, 0, 0)]
  | _ => []
set_option maxRecDepth 20000 in
theorem ck_250 : ∀ t, chkL 250 t (bk_250 t) = true := by
  intro t
  unfold bk_250
  split <;> first | decide +kernel | rfl
def cu_250 : Nat → Option (List Nat) := fun t => match t with | 8 => some [0, 1, 2] | _ => none
/-- SluiceLogsModel.spread()I -/
def bk_251 : Nat → List Ins := fun t => match t with
  | 0 => [(.aload_n 0, 0, 0, 0, 0), (.invokevirtual 444, 203, 109, 0, 2), (.ldc_w 491, 999999, 0, 0, 0), (.istore_n 1, 1, 0, 0, 0), (.iconst 0, 0, 0, 0, 0), (.istore_n 2, 2, 0, 0, 0), (.iconst 0, 0, 0, 0, 0), (.istore_n 3, 3, 0, 0, 0)]
  | 12 => [(.iload_n 3, 3, 0, 0, 0), (.aload_n 0, 0, 0, 0, 0), (.getfield 49, 9, 24, 2, 0), (.aload_n 0, 0, 0, 0, 0), (.getfield 245, 9, 18, 0, 0), (.iaload, 0, 0, 0, 0), (.if_icmp .ge 34, 56, 0, 0, 0), (.aload_n 0, 0, 0, 0, 0), (.iload_n 3, 3, 0, 0, 0), (.invokevirtual 408, 219, 109, 1, 2), (.istore 4, 4, 0, 0, 0), (.iload 4, 4, 0, 0, 0), (.iload_n 1, 1, 0, 0, 0), (.if_icmp .ge 6, 41, 0, 0, 0), (.iload 4, 4, 0, 0, 0), (.istore_n 1, 1, 0, 0, 0)]
  | 41 => [(.iload 4, 4, 0, 0, 0), (.iload_n 2, 2, 0, 0, 0), (.if_icmp .le 6, 50, 0, 0, 0), (.iload 4, 4, 0, 0, 0), (.istore_n 2, 2, 0, 0, 0)]
  | 50 => [(.iinc 3 1, 3, 0, 0, 0), (.goto (-41), 12, 0, 0, 0)]
  | 56 => [(.aload_n 0, 0, 0, 0, 0), (.getfield 49, 9, 24, 2, 0), (.aload_n 0, 0, 0, 0, 0), (.getfield 245, 9, 18, 0, 0), (.iaload, 0, 0, 0, 0), (.ifCond .ne 7, 72, 0, 0, 0), (.iconst 0, 0, 0, 0, 0), (.goto 6, 75, 0, 0, 0)]
  | 72 => [(.iload_n 2, 2, 0, 0, 0), (.iload_n 1, 1, 0, 0, 0), (.isub, 0, 0, 0, 0)]
  | 75 => [(.ireturn, 0, 0, 0, 0)]
  | _ => []
set_option maxRecDepth 20000 in
theorem ck_251 : ∀ t, chkL 251 t (bk_251 t) = true := by
  intro t
  unfold bk_251
  split <;> first | decide +kernel | rfl
def cu_251 : Nat → Option (List Nat) := fun t => match t with | 12 => some [0, 1, 2, 3] | _ => none
/-- SluiceLogsModel.richest()I -/
def bk_252 : Nat → List Ins := fun t => match t with
  | 0 => [(.aload_n 0, 0, 0, 0, 0), (.invokevirtual 444, 203, 109, 0, 2), (.bipush (-2), 0, 0, 0, 0), (.istore_n 1, 1, 0, 0, 0), (.iconst 0, 0, 0, 0, 0), (.istore_n 2, 2, 0, 0, 0)]
  | 9 => [(.iload_n 2, 2, 0, 0, 0), (.aload_n 0, 0, 0, 0, 0), (.getfield 49, 9, 24, 2, 0), (.aload_n 0, 0, 0, 0, 0), (.getfield 245, 9, 18, 0, 0), (.iaload, 0, 0, 0, 0), (.if_icmp .ge 36, 55, 0, 0, 0), (.aload_n 0, 0, 0, 0, 0), (.getfield 369, 9, 56, 0, 0), (.ifCond .ne 29, 55, 0, 0, 0), (.iload_n 1, 1, 0, 0, 0), (.ifCond .lt 17, 47, 0, 0, 0), (.aload_n 0, 0, 0, 0, 0), (.iload_n 2, 2, 0, 0, 0), (.invokevirtual 395, 217, 109, 1, 5), (.aload_n 0, 0, 0, 0, 0), (.iload_n 1, 1, 0, 0, 0), (.invokevirtual 395, 217, 109, 1, 5), (.lcmp, 0, 0, 0, 0), (.ifCond .le 5, 49, 0, 0, 0)]
  | 47 => [(.iload_n 2, 2, 0, 0, 0), (.istore_n 1, 1, 0, 0, 0)]
  | 49 => [(.iinc 2 1, 2, 0, 0, 0), (.goto (-43), 9, 0, 0, 0)]
  | 55 => [(.iload_n 1, 1, 0, 0, 0), (.ireturn, 0, 0, 0, 0)]
  | _ => []
set_option maxRecDepth 20000 in
theorem ck_252 : ∀ t, chkL 252 t (bk_252 t) = true := by
  intro t
  unfold bk_252
  split <;> first | decide +kernel | rfl
def cu_252 : Nat → Option (List Nat) := fun t => match t with | 9 => some [0, 1, 2] | _ => none
/-- SluiceLogsModel.keepsOvers()V -/
def bk_253 : Nat → List Ins := fun t => match t with
  | 0 => [(.aload_n 0, 0, 0, 0, 0), (.aload_n 0, 0, 0, 0, 0), (.getfield 369, 9, 56, 0, 0), (.putfield 492, 9, 65, 3, 0), (.aload_n 0, 0, 0, 0, 0), (.aload_n 0, 0, 0, 0, 0), (.getfield 372, 9, 57, 1, 0), (.putfield 495, 9, 64, 1, 0), (.iconst 0, 0, 0, 0, 0), (.istore_n 1, 1, 0, 0, 0)]
  | 18 => [(.iload_n 1, 1, 0, 0, 0), (.aload_n 0, 0, 0, 0, 0), (.getfield 49, 9, 24, 2, 0), (.aload_n 0, 0, 0, 0, 0), (.getfield 245, 9, 18, 0, 0), (.iaload, 0, 0, 0, 0), (.if_icmp .ge 20, 48, 0, 0, 0), (.aload_n 0, 0, 0, 0, 0), (.getfield 140, 9, 63, 2, 0), (.iload_n 1, 1, 0, 0, 0), (.aload_n 0, 0, 0, 0, 0), (.iload_n 1, 1, 0, 0, 0), (.invokevirtual 395, 217, 109, 1, 5), (.lastore, 0, 0, 0, 0), (.iinc 1 1, 1, 0, 0, 0), (.goto (-27), 18, 0, 0, 0)]
  | 48 => [(.return_, 0, 0, 0, 0)]
  | _ => []
set_option maxRecDepth 20000 in
theorem ck_253 : ∀ t, chkL 253 t (bk_253 t) = true := by
  intro t
  unfold bk_253
  split <;> first | decide +kernel | rfl
def cu_253 : Nat → Option (List Nat) := fun t => match t with | 18 => some [0, 1] | _ => none
/-- SluiceLogsModel.tries(I)V -/
def bk_254 : Nat → List Ins := fun t => match t with
  | 0 => [(.aload_n 0, 0, 0, 0, 0), (.iload_n 1, 1, 0, 0, 0), (.invokevirtual 467, 230, 109, 1, 2), (.aload_n 0, 0, 0, 0, 0), (.invokevirtual 344, 213, 109, 0, 5), (.return_, 0, 0, 0, 0)]
  | _ => []
set_option maxRecDepth 20000 in
theorem ck_254 : ∀ t, chkL 254 t (bk_254 t) = true := by
  intro t
  unfold bk_254
  split <;> first | decide +kernel | rfl
def cu_254 : Nat → Option (List Nat) := fun _ => none
/-- SluiceLogsModel.triesFromNow(I)V -/
def bk_255 : Nat → List Ins := fun t => match t with
  | 0 => [(.aload_n 0, 0, 0, 0, 0), (.invokevirtual 444, 203, 109, 0, 2), (.aload_n 0, 0, 0, 0, 0), (.invokevirtual 498, 253, 109, 0, 2), (.aload_n 0, 0, 0, 0, 0), (.iload_n 1, 1, 0, 0, 0), (.invokevirtual 501, 254, 109, 1, 2), (.return_, 0, 0, 0, 0)]
  | _ => []
set_option maxRecDepth 20000 in
theorem ck_255 : ∀ t, chkL 255 t (bk_255 t) = true := by
  intro t
  unfold bk_255
  split <;> first | decide +kernel | rfl
def cu_255 : Nat → Option (List Nat) := fun _ => none
/-- SluiceLogsModel.feelsOf(I)I -/
def bk_256 : Nat → List Ins := fun t => match t with
  | 0 => [(.aload_n 0, 0, 0, 0, 0), (.getfield 369, 9, 56, 0, 0), (.ifCond .ne 10, 14, 0, 0, 0), (.aload_n 0, 0, 0, 0, 0), (.getfield 492, 9, 65, 0, 0), (.ifCond .eq 5, 16, 0, 0, 0)]
  | 14 => [(.iconst 0, 0, 0, 0, 0), (.ireturn, 0, 0, 0, 0)]
  | 16 => [(.aload_n 0, 0, 0, 0, 0), (.iload_n 1, 1, 0, 0, 0), (.invokevirtual 395, 217, 109, 1, 5), (.aload_n 0, 0, 0, 0, 0), (.getfield 495, 9, 64, 1, 0), (.lmul, 0, 0, 0, 0), (.lstore_n 2, 2, 0, 0, 0), (.aload_n 0, 0, 0, 0, 0), (.getfield 140, 9, 63, 2, 0), (.iload_n 1, 1, 0, 0, 0), (.laload, 0, 0, 0, 0), (.aload_n 0, 0, 0, 0, 0), (.getfield 372, 9, 57, 1, 0), (.lmul, 0, 0, 0, 0), (.lstore 4, 4, 0, 0, 0), (.lload_n 2, 2, 0, 0, 0), (.lload 4, 4, 0, 0, 0), (.lcmp, 0, 0, 0, 0), (.ifCond .le 7, 51, 0, 0, 0), (.iconst 1, 0, 0, 0, 0), (.goto 15, 63, 0, 0, 0)]
  | 51 => [(.lload_n 2, 2, 0, 0, 0), (.lload 4, 4, 0, 0, 0), (.lcmp, 0, 0, 0, 0), (.ifCond .ge 7, 62, 0, 0, 0), (.iconst 2, 0, 0, 0, 0), (.goto 4, 63, 0, 0, 0)]
  | 62 => [(.iconst 0, 0, 0, 0, 0)]
  | 63 => [(.ireturn, 0, 0, 0, 0)]
  | _ => []
set_option maxRecDepth 20000 in
theorem ck_256 : ∀ t, chkL 256 t (bk_256 t) = true := by
  intro t
  unfold bk_256
  split <;> first | decide +kernel | rfl
def cu_256 : Nat → Option (List Nat) := fun _ => none
/-- SluiceLogsModel.feels(IZI)I -/
def bk_257 : Nat → List Ins := fun t => match t with
  | 0 => [(.aload_n 0, 0, 0, 0, 0), (.invokevirtual 444, 203, 109, 0, 2), (.aload_n 0, 0, 0, 0, 0), (.iload_n 1, 1, 0, 0, 0), (.invokevirtual 457, 197, 109, 1, 2), (.ifCond .eq 23, 32, 0, 0, 0), (.aload_n 0, 0, 0, 0, 0), (.iload_n 3, 3, 0, 0, 0), (.invokevirtual 454, 196, 109, 1, 2), (.ifCond .eq 15, 32, 0, 0, 0), (.aload_n 0, 0, 0, 0, 0), (.iload_n 1, 1, 0, 0, 0), (.iload_n 2, 2, 0, 0, 0), (.invokestatic 463, 238, 0, 2, 2), (.invokevirtual 426, 229, 109, 1, 2), (.ifCond .ne 5, 34, 0, 0, 0)]
  | 32 => [(.iconst (-1), 0, 0, 0, 0), (.ireturn, 0, 0, 0, 0)]
  | 34 => [(.aload_n 0, 0, 0, 0, 0), (.iload_n 1, 1, 0, 0, 0), (.iload_n 2, 2, 0, 0, 0), (.invokestatic 463, 238, 0, 2, 2), (.invokevirtual 504, 255, 109, 1, 2), (.aload_n 0, 0, 0, 0, 0), (.iload_n 3, 3, 0, 0, 0), (.invokevirtual 507, 256, 109, 1, 6), (.ireturn, 0, 0, 0, 0)]
  | _ => []
set_option maxRecDepth 20000 in
theorem ck_257 : ∀ t, chkL 257 t (bk_257 t) = true := by
  intro t
  unfold bk_257
  split <;> first | decide +kernel | rfl
def cu_257 : Nat → Option (List Nat) := fun _ => none
/-- SluiceLogsModel.isFelt()Z -/
def bk_258 : Nat → List Ins := fun t => match t with
  | 0 => [(.iconst 0, 0, 0, 0, 0), (.istore_n 1, 1, 0, 0, 0)]
  | 2 => [(.iload_n 1, 1, 0, 0, 0), (.aload_n 0, 0, 0, 0, 0), (.getfield 49, 9, 24, 2, 0), (.aload_n 0, 0, 0, 0, 0), (.getfield 245, 9, 18, 0, 0), (.iaload, 0, 0, 0, 0), (.if_icmp .ge 19, 31, 0, 0, 0), (.aload_n 0, 0, 0, 0, 0), (.iload_n 1, 1, 0, 0, 0), (.invokevirtual 507, 256, 109, 1, 6), (.ifCond .le 5, 25, 0, 0, 0), (.iconst 1, 0, 0, 0, 0), (.ireturn, 3, 0, 0, 0)]
  | 25 => [(.iinc 1 1, 1, 0, 0, 0), (.goto (-26), 2, 0, 0, 0)]
  | 31 => [(.iconst 0, 0, 0, 0, 0), (.ireturn, 3, 0, 0, 0)]
  | _ => []
set_option maxRecDepth 20000 in
theorem ck_258 : ∀ t, chkL 258 t (bk_258 t) = true := by
  intro t
  unfold bk_258
  split <;> first | decide +kernel | rfl
def cu_258 : Nat → Option (List Nat) := fun t => match t with | 2 => some [0, 1] | _ => none
/-- SluiceLogsModel.unfelt()I -/
def bk_259 : Nat → List Ins := fun t => match t with
  | 0 => [(.aload_n 0, 0, 0, 0, 0), (.invokevirtual 444, 203, 109, 0, 2), (.aload_n 0, 0, 0, 0, 0), (.invokevirtual 510, 231, 109, 0, 3), (.istore_n 1, 1, 0, 0, 0), (.iconst 0, 0, 0, 0, 0), (.istore_n 2, 2, 0, 0, 0), (.iconst 0, 0, 0, 0, 0), (.istore_n 3, 3, 0, 0, 0)]
  | 13 => [(.iload_n 3, 3, 0, 0, 0), (.bipush 24, 0, 0, 0, 0), (.if_icmp .ge 38, 54, 0, 0, 0), (.iload_n 1, 1, 0, 0, 0), (.iload_n 3, 3, 0, 0, 0), (.ishr, 0, 0, 0, 0), (.iconst 1, 0, 0, 0, 0), (.iand, 0, 0, 0, 0), (.ifCond .ne 6, 30, 0, 0, 0), (.goto 21, 48, 0, 0, 0)]
  | 30 => [(.aload_n 0, 0, 0, 0, 0), (.iload_n 3, 3, 0, 0, 0), (.invokevirtual 504, 255, 109, 1, 2), (.aload_n 0, 0, 0, 0, 0), (.invokevirtual 513, 258, 109, 0, 2), (.ifCond .ne 9, 48, 0, 0, 0), (.iload_n 2, 2, 0, 0, 0), (.iconst 1, 0, 0, 0, 0), (.iload_n 3, 3, 0, 0, 0), (.ishl, 0, 0, 0, 0), (.ior, 0, 0, 0, 0), (.istore_n 2, 2, 0, 0, 0)]
  | 48 => [(.iinc 3 1, 3, 0, 0, 0), (.goto (-38), 13, 0, 0, 0)]
  | 54 => [(.iload_n 2, 2, 0, 0, 0), (.ireturn, 0, 0, 0, 0)]
  | _ => []
set_option maxRecDepth 20000 in
theorem ck_259 : ∀ t, chkL 259 t (bk_259 t) = true := by
  intro t
  unfold bk_259
  split <;> first | decide +kernel | rfl
def cu_259 : Nat → Option (List Nat) := fun t => match t with | 13 => some [0, 1, 2, 3] | _ => none
/-- SluiceLogsModel.best(II)I -/
def bk_260 : Nat → List Ins := fun t => match t with
  | 0 => [(.aload_n 0, 0, 0, 0, 0), (.iload_n 1, 1, 0, 0, 0), (.invokevirtual 454, 196, 109, 1, 2), (.ifCond .eq 12, 17, 0, 0, 0), (.iload_n 2, 2, 0, 0, 0), (.iconst 0, 0, 0, 0, 0), (.iconst 1, 0, 0, 0, 0), (.invokestatic 334, 192, 0, 3, 3), (.ifCond .ne 5, 19, 0, 0, 0)]
  | 17 => [(.iconst (-1), 0, 0, 0, 0), (.ireturn, 0, 0, 0, 0)]
  | 19 => [(.aload_n 0, 0, 0, 0, 0), (.invokevirtual 444, 203, 109, 0, 2), (.aload_n 0, 0, 0, 0, 0), (.invokevirtual 510, 231, 109, 0, 3), (.istore_n 3, 3, 0, 0, 0), (.bipush (-2), 0, 0, 0, 0), (.istore 4, 4, 0, 0, 0), (.bipush (-2), 0, 0, 0, 0), (.istore 5, 5, 0, 0, 0), (.lconst 0, 0, 0, 0, 0), (.lstore 6, 6, 0, 0, 0), (.lconst 1, 0, 0, 0, 0), (.lstore 8, 8, 0, 0, 0), (.iconst 0, 0, 0, 0, 0), (.istore 10, 10, 0, 0, 0)]
  | 45 => [(.iload 10, 10, 0, 0, 0), (.bipush 24, 0, 0, 0, 0), (.if_icmp .ge 87, 136, 0, 0, 0), (.iload_n 3, 3, 0, 0, 0), (.iload 10, 10, 0, 0, 0), (.ishr, 0, 0, 0, 0), (.iconst 1, 0, 0, 0, 0), (.iand, 0, 0, 0, 0), (.ifCond .ne 6, 64, 0, 0, 0), (.goto 69, 130, 0, 0, 0)]
  | 64 => [(.aload_n 0, 0, 0, 0, 0), (.iload 10, 10, 0, 0, 0), (.invokevirtual 504, 255, 109, 1, 2), (.aload_n 0, 0, 0, 0, 0), (.iload_n 1, 1, 0, 0, 0), (.invokevirtual 507, 256, 109, 1, 6), (.iconst 1, 0, 0, 0, 0), (.if_icmp .ne 54, 130, 0, 0, 0), (.iload 4, 4, 0, 0, 0), (.ifCond .lt 25, 106, 0, 0, 0), (.aload_n 0, 0, 0, 0, 0), (.iload_n 1, 1, 0, 0, 0), (.invokevirtual 395, 217, 109, 1, 5), (.lload 8, 8, 0, 0, 0), (.lmul, 0, 0, 0, 0), (.lload 6, 6, 0, 0, 0), (.aload_n 0, 0, 0, 0, 0), (.getfield 372, 9, 57, 1, 0), (.lmul, 0, 0, 0, 0), (.lcmp, 0, 0, 0, 0), (.ifCond .gt 6, 106, 0, 0, 0), (.goto 27, 130, 0, 0, 0)]
  | 106 => [(.iload 10, 10, 0, 0, 0), (.istore 4, 4, 0, 0, 0), (.aload_n 0, 0, 0, 0, 0), (.iload_n 1, 1, 0, 0, 0), (.invokevirtual 408, 219, 109, 1, 2), (.istore 5, 5, 0, 0, 0), (.aload_n 0, 0, 0, 0, 0), (.iload_n 1, 1, 0, 0, 0), (.invokevirtual 395, 217, 109, 1, 5), (.lstore 6, 6, 0, 0, 0), (.aload_n 0, 0, 0, 0, 0), (.getfield 372, 9, 57, 1, 0), (.lstore 8, 8, 0, 0, 0)]
  | 130 => [(.iinc 10 1, 10, 0, 0, 0), (.goto (-88), 45, 0, 0, 0)]
  | 136 => [(.iload_n 2, 2, 0, 0, 0), (.ifCond .ne 8, 145, 0, 0, 0), (.iload 4, 4, 0, 0, 0), (.goto 5, 147, 0, 0, 0)]
  | 145 => [(.iload 5, 5, 0, 0, 0)]
  | 147 => [(.ireturn, 0, 0, 0, 0)]
  | _ => []
set_option maxRecDepth 20000 in
theorem ck_260 : ∀ t, chkL 260 t (bk_260 t) = true := by
  intro t
  unfold bk_260
  split <;> first | decide +kernel | rfl
def cu_260 : Nat → Option (List Nat) := fun t => match t with | 45 => some [0, 1, 2, 3, 4, 5, 6, 8, 10] | _ => none
/-- SluiceLogsModel.isLed(II)Z -/
def bk_261 : Nat → List Ins := fun t => match t with
  | 0 => [(.iconst 0, 0, 0, 0, 0), (.istore_n 3, 3, 0, 0, 0)]
  | 2 => [(.iload_n 3, 3, 0, 0, 0), (.aload_n 0, 0, 0, 0, 0), (.getfield 61, 9, 28, 2, 0), (.aload_n 0, 0, 0, 0, 0), (.getfield 245, 9, 18, 0, 0), (.iaload, 0, 0, 0, 0), (.if_icmp .ge 44, 56, 0, 0, 0), (.aload_n 0, 0, 0, 0, 0), (.iload_n 3, 3, 0, 0, 0), (.invokevirtual 351, 198, 109, 1, 2), (.iload_n 1, 1, 0, 0, 0), (.if_icmp .ne 29, 50, 0, 0, 0), (.aload_n 0, 0, 0, 0, 0), (.iload_n 3, 3, 0, 0, 0), (.invokevirtual 354, 199, 109, 1, 2), (.bipush 10, 0, 0, 0, 0), (.iload_n 2, 2, 0, 0, 0), (.iadd, 0, 0, 0, 0), (.if_icmp .ne 17, 50, 0, 0, 0), (.aload_n 0, 0, 0, 0, 0), (.getfield 116, 9, 50, 2, 0), (.bipush 18, 0, 0, 0, 0), (.iload_n 3, 3, 0, 0, 0), (.iadd, 0, 0, 0, 0), (.iaload, 0, 0, 0, 0), (.ifCond .le 5, 50, 0, 0, 0), (.iconst 1, 0, 0, 0, 0), (.ireturn, 3, 0, 0, 0)]
  | 50 => [(.iinc 3 1, 3, 0, 0, 0), (.goto (-51), 2, 0, 0, 0)]
  | 56 => [(.iconst 0, 0, 0, 0, 0), (.ireturn, 3, 0, 0, 0)]
  | _ => []
set_option maxRecDepth 20000 in
theorem ck_261 : ∀ t, chkL 261 t (bk_261 t) = true := by
  intro t
  unfold bk_261
  split <;> first | decide +kernel | rfl
def cu_261 : Nat → Option (List Nat) := fun t => match t with | 2 => some [0, 1, 2, 3] | _ => none
/-- SluiceLogsModel.tempted()I -/
def bk_262 : Nat → List Ins := fun t => match t with
  | 0 => [(.aload_n 0, 0, 0, 0, 0), (.invokevirtual 444, 203, 109, 0, 2), (.aload_n 0, 0, 0, 0, 0), (.invokevirtual 510, 231, 109, 0, 3), (.istore_n 1, 1, 0, 0, 0), (.iconst 0, 0, 0, 0, 0), (.istore_n 2, 2, 0, 0, 0), (.iconst 0, 0, 0, 0, 0), (.istore_n 3, 3, 0, 0, 0)]
  | 13 => [(.iload_n 3, 3, 0, 0, 0), (.bipush 24, 0, 0, 0, 0), (.if_icmp .ge 81, 97, 0, 0, 0), (.iload_n 1, 1, 0, 0, 0), (.iload_n 3, 3, 0, 0, 0), (.ishr, 0, 0, 0, 0), (.iconst 1, 0, 0, 0, 0), (.iand, 0, 0, 0, 0), (.ifCond .ne 6, 30, 0, 0, 0), (.goto 64, 91, 0, 0, 0)]
  | 30 => [(.aload_n 0, 0, 0, 0, 0), (.iload_n 3, 3, 0, 0, 0), (.invokevirtual 504, 255, 109, 1, 2), (.iconst 0, 0, 0, 0, 0), (.istore 4, 4, 0, 0, 0)]
  | 38 => [(.iload 4, 4, 0, 0, 0), (.aload_n 0, 0, 0, 0, 0), (.getfield 49, 9, 24, 2, 0), (.aload_n 0, 0, 0, 0, 0), (.getfield 245, 9, 18, 0, 0), (.iaload, 0, 0, 0, 0), (.if_icmp .ge 42, 91, 0, 0, 0), (.aload_n 0, 0, 0, 0, 0), (.iload 4, 4, 0, 0, 0), (.invokevirtual 507, 256, 109, 1, 6), (.iconst 1, 0, 0, 0, 0), (.if_icmp .ne 26, 85, 0, 0, 0), (.aload_n 0, 0, 0, 0, 0), (.aload_n 0, 0, 0, 0, 0), (.iload_n 3, 3, 0, 0, 0), (.iconst 2, 0, 0, 0, 0), (.idiv, 0, 0, 0, 0), (.invokevirtual 351, 198, 109, 1, 2), (.iload 4, 4, 0, 0, 0), (.invokevirtual 517, 261, 109, 2, 4), (.ifCond .eq 10, 85, 0, 0, 0), (.iload_n 2, 2, 0, 0, 0), (.iconst 1, 0, 0, 0, 0), (.iload 4, 4, 0, 0, 0), (.ishl, 0, 0, 0, 0), (.ior, 0, 0, 0, 0), (.istore_n 2, 2, 0, 0, 0)]
  | 85 => [(.iinc 4 1, 4, 0, 0, 0), (.goto (-50), 38, 0, 0, 0)]
  | 91 => [(.iinc 3 1, 3, 0, 0, 0), (.goto (-81), 13, 0, 0, 0)]
  | 97 => [(.iload_n 2, 2, 0, 0, 0), (.ireturn, 0, 0, 0, 0)]
  | _ => []
set_option maxRecDepth 20000 in
theorem ck_262 : ∀ t, chkL 262 t (bk_262 t) = true := by
  intro t
  unfold bk_262
  split <;> first | decide +kernel | rfl
def cu_262 : Nat → Option (List Nat) := fun t => match t with | 13 => some [0, 1, 2, 3] | 38 => some [0, 1, 2, 3, 4] | _ => none
/-- SluiceLogsModel.areDone(I)Z -/
def bk_263 : Nat → List Ins := fun t => match t with
  | 0 => [(.aload_n 0, 0, 0, 0, 0), (.invokevirtual 444, 203, 109, 0, 2), (.iconst 0, 0, 0, 0, 0), (.istore_n 2, 2, 0, 0, 0)]
  | 6 => [(.iload_n 2, 2, 0, 0, 0), (.iload_n 1, 1, 0, 0, 0), (.if_icmp .ge 34, 42, 0, 0, 0), (.aload_n 0, 0, 0, 0, 0), (.aload_n 0, 0, 0, 0, 0), (.getfield 143, 9, 66, 2, 0), (.iload_n 2, 2, 0, 0, 0), (.iaload, 0, 0, 0, 0), (.invokevirtual 426, 229, 109, 1, 2), (.ifCond .ne 5, 26, 0, 0, 0), (.iconst 0, 0, 0, 0, 0), (.ireturn, 3, 0, 0, 0)]
  | 26 => [(.aload_n 0, 0, 0, 0, 0), (.aload_n 0, 0, 0, 0, 0), (.getfield 143, 9, 66, 2, 0), (.iload_n 2, 2, 0, 0, 0), (.iaload, 0, 0, 0, 0), (.invokevirtual 467, 230, 109, 1, 2), (.iinc 2 1, 2, 0, 0, 0), (.goto (-33), 6, 0, 0, 0)]
  | 42 => [(.aload_n 0, 0, 0, 0, 0), (.invokevirtual 344, 213, 109, 0, 5), (.aload_n 0, 0, 0, 0, 0), (.getfield 369, 9, 56, 0, 0), (.ifCond .ne 14, 64, 0, 0, 0), (.aload_n 0, 0, 0, 0, 0), (.invokevirtual 488, 228, 109, 0, 3), (.ifCond .ne 7, 64, 0, 0, 0), (.iconst 1, 0, 0, 0, 0), (.goto 4, 65, 0, 0, 0)]
  | 64 => [(.iconst 0, 0, 0, 0, 0)]
  | 65 => [(.ireturn, 3, 0, 0, 0)]
  | _ => []
set_option maxRecDepth 20000 in
theorem ck_263 : ∀ t, chkL 263 t (bk_263 t) = true := by
  intro t
  unfold bk_263
  split <;> first | decide +kernel | rfl
def cu_263 : Nat → Option (List Nat) := fun t => match t with | 6 => some [0, 1, 2] | _ => none
/-- SluiceLogsModel.goesOnTo(I)Z -/
def bk_264 : Nat → List Ins := fun t => match t with
  | 0 => [(.iload_n 1, 1, 0, 0, 0), (.iconst 1, 0, 0, 0, 0), (.isub, 0, 0, 0, 0), (.istore_n 2, 2, 0, 0, 0)]
  | 4 => [(.iload_n 2, 2, 0, 0, 0), (.ifCond .lt 20, 25, 0, 0, 0), (.aload_n 0, 0, 0, 0, 0), (.getfield 143, 9, 66, 2, 0), (.iload_n 2, 2, 0, 0, 0), (.iaload, 0, 0, 0, 0), (.bipush 23, 0, 0, 0, 0), (.if_icmp .ne 9, 25, 0, 0, 0), (.iinc 2 (-1), 2, 0, 0, 0), (.goto (-18), 4, 0, 0, 0)]
  | 25 => [(.iload_n 2, 2, 0, 0, 0), (.ifCond .ge 5, 31, 0, 0, 0), (.iconst 0, 0, 0, 0, 0), (.ireturn, 3, 0, 0, 0)]
  | 31 => [(.aload_n 0, 0, 0, 0, 0), (.getfield 143, 9, 66, 2, 0), (.iload_n 2, 2, 0, 0, 0), (.iaload, 0, 0, 0, 0), (.iconst 1, 0, 0, 0, 0), (.iadd, 0, 0, 0, 0), (.istore_n 3, 3, 0, 0, 0), (.iload_n 2, 2, 0, 0, 0), (.istore 4, 4, 0, 0, 0)]
  | 43 => [(.iload 4, 4, 0, 0, 0), (.iload_n 1, 1, 0, 0, 0), (.if_icmp .ge 17, 63, 0, 0, 0), (.aload_n 0, 0, 0, 0, 0), (.getfield 143, 9, 66, 2, 0), (.iload 4, 4, 0, 0, 0), (.iload_n 3, 3, 0, 0, 0), (.iastore, 0, 0, 0, 0), (.iinc 4 1, 4, 0, 0, 0), (.goto (-17), 43, 0, 0, 0)]
  | 63 => [(.iconst 1, 0, 0, 0, 0), (.ireturn, 3, 0, 0, 0)]
  | _ => []
set_option maxRecDepth 20000 in
theorem ck_264 : ∀ t, chkL 264 t (bk_264 t) = true := by
  intro t
  unfold bk_264
  split <;> first | decide +kernel | rfl
def cu_264 : Nat → Option (List Nat) := fun t => match t with | 4 => some [0, 1, 2] | 43 => some [0, 1, 3, 4] | _ => none
/-- SluiceLogsModel.mendOf()I -/
def bk_265 : Nat → List Ins := fun t => match t with
  | 0 => [(.iconst 0, 0, 0, 0, 0), (.istore_n 1, 1, 0, 0, 0)]
  | 2 => [(.iload_n 1, 1, 0, 0, 0), (.iconst 3, 0, 0, 0, 0), (.if_icmp .gt 54, 58, 0, 0, 0), (.iconst 0, 0, 0, 0, 0), (.istore_n 2, 2, 0, 0, 0)]
  | 9 => [(.iload_n 2, 2, 0, 0, 0), (.iconst 3, 0, 0, 0, 0), (.if_icmp .ge 16, 27, 0, 0, 0), (.aload_n 0, 0, 0, 0, 0), (.getfield 143, 9, 66, 2, 0), (.iload_n 2, 2, 0, 0, 0), (.iconst 0, 0, 0, 0, 0), (.iastore, 0, 0, 0, 0), (.iinc 2 1, 2, 0, 0, 0), (.goto (-15), 9, 0, 0, 0)]
  | 27 => [(.iconst 1, 0, 0, 0, 0), (.istore_n 2, 2, 0, 0, 0)]
  | 29 => [(.iload_n 2, 2, 0, 0, 0), (.ifCond .eq 22, 52, 0, 0, 0), (.aload_n 0, 0, 0, 0, 0), (.iload_n 1, 1, 0, 0, 0), (.invokevirtual 521, 263, 109, 1, 3), (.ifCond .eq 5, 43, 0, 0, 0), (.iload_n 1, 1, 0, 0, 0), (.ireturn, 0, 0, 0, 0)]
  | 43 => [(.aload_n 0, 0, 0, 0, 0), (.iload_n 1, 1, 0, 0, 0), (.invokevirtual 524, 264, 109, 1, 5), (.istore_n 2, 2, 0, 0, 0), (.goto (-20), 29, 0, 0, 0)]
  | 52 => [(.iinc 1 1, 1, 0, 0, 0), (.goto (-53), 2, 0, 0, 0)]
  | 58 => [(.bipush (-2), 0, 0, 0, 0), (.ireturn, 0, 0, 0, 0)]
  | _ => []
set_option maxRecDepth 20000 in
theorem ck_265 : ∀ t, chkL 265 t (bk_265 t) = true := by
  intro t
  unfold bk_265
  split <;> first | decide +kernel | rfl
def cu_265 : Nat → Option (List Nat) := fun t => match t with | 2 => some [0, 1] | 9 => some [0, 1, 2] | 29 => some [0, 1, 2] | _ => none
/-- SluiceLogsModel.mend(I)I -/
def bk_266 : Nat → List Ins := fun t => match t with
  | 0 => [(.iload_n 1, 1, 0, 0, 0), (.iconst (-1), 0, 0, 0, 0), (.if_icmp .ge 5, 7, 0, 0, 0), (.iconst (-1), 0, 0, 0, 0), (.ireturn, 0, 0, 0, 0)]
  | 7 => [(.aload_n 0, 0, 0, 0, 0), (.invokevirtual 527, 265, 109, 0, 3), (.istore_n 2, 2, 0, 0, 0), (.iload_n 2, 2, 0, 0, 0), (.ifCond .lt 8, 21, 0, 0, 0), (.iload_n 1, 1, 0, 0, 0), (.iconst (-1), 0, 0, 0, 0), (.if_icmp .ne 5, 23, 0, 0, 0)]
  | 21 => [(.iload_n 2, 2, 0, 0, 0), (.ireturn, 0, 0, 0, 0)]
  | 23 => [(.iload_n 1, 1, 0, 0, 0), (.iload_n 2, 2, 0, 0, 0), (.if_icmp .ge 12, 37, 0, 0, 0), (.aload_n 0, 0, 0, 0, 0), (.getfield 143, 9, 66, 2, 0), (.iload_n 1, 1, 0, 0, 0), (.iaload, 0, 0, 0, 0), (.goto 4, 38, 0, 0, 0)]
  | 37 => [(.iconst (-1), 0, 0, 0, 0)]
  | 38 => [(.ireturn, 0, 0, 0, 0)]
  | _ => []
set_option maxRecDepth 20000 in
theorem ck_266 : ∀ t, chkL 266 t (bk_266 t) = true := by
  intro t
  unfold bk_266
  split <;> first | decide +kernel | rfl
def cu_266 : Nat → Option (List Nat) := fun _ => none
/-- SluiceLogsModel.feeds(I)I -/
def bk_267 : Nat → List Ins := fun t => match t with
  | 0 => [(.aload_n 0, 0, 0, 0, 0), (.iload_n 1, 1, 0, 0, 0), (.invokevirtual 454, 196, 109, 1, 2), (.ifCond .ne 5, 10, 0, 0, 0), (.iconst (-1), 0, 0, 0, 0), (.ireturn, 0, 0, 0, 0)]
  | 10 => [(.aload_n 0, 0, 0, 0, 0), (.invokevirtual 444, 203, 109, 0, 2), (.aload_n 0, 0, 0, 0, 0), (.getfield 119, 9, 51, 2, 0), (.iload_n 1, 1, 0, 0, 0), (.iaload, 0, 0, 0, 0), (.ifCond .lt 15, 35, 0, 0, 0), (.aload_n 0, 0, 0, 0, 0), (.getfield 119, 9, 51, 2, 0), (.bipush 6, 0, 0, 0, 0), (.iload_n 1, 1, 0, 0, 0), (.iadd, 0, 0, 0, 0), (.iaload, 0, 0, 0, 0), (.ifCond .ne 5, 37, 0, 0, 0)]
  | 35 => [(.iconst 0, 0, 0, 0, 0), (.ireturn, 0, 0, 0, 0)]
  | 37 => [(.aload_n 0, 0, 0, 0, 0), (.invokevirtual 376, 206, 109, 0, 5), (.aload_n 0, 0, 0, 0, 0), (.iconst 1, 0, 0, 0, 0), (.aload_n 0, 0, 0, 0, 0), (.getfield 119, 9, 51, 2, 0), (.iload_n 1, 1, 0, 0, 0), (.iaload, 0, 0, 0, 0), (.ishl, 0, 0, 0, 0), (.invokevirtual 363, 207, 109, 1, 5), (.istore_n 2, 2, 0, 0, 0), (.iconst 0, 0, 0, 0, 0), (.istore_n 3, 3, 0, 0, 0), (.iconst 0, 0, 0, 0, 0), (.istore 4, 4, 0, 0, 0)]
  | 59 => [(.iload 4, 4, 0, 0, 0), (.aload_n 0, 0, 0, 0, 0), (.getfield 61, 9, 28, 2, 0), (.aload_n 0, 0, 0, 0, 0), (.getfield 245, 9, 18, 0, 0), (.iaload, 0, 0, 0, 0), (.if_icmp .ge 68, 138, 0, 0, 0), (.iload_n 2, 2, 0, 0, 0), (.aload_n 0, 0, 0, 0, 0), (.iload 4, 4, 0, 0, 0), (.invokevirtual 351, 198, 109, 1, 2), (.ishr, 0, 0, 0, 0), (.iconst 1, 0, 0, 0, 0), (.iand, 0, 0, 0, 0), (.iconst 1, 0, 0, 0, 0), (.if_icmp .ne 48, 132, 0, 0, 0), (.aload_n 0, 0, 0, 0, 0), (.iload 4, 4, 0, 0, 0), (.invokevirtual 357, 200, 109, 1, 2), (.ifCond .le 39, 132, 0, 0, 0), (.aload_n 0, 0, 0, 0, 0), (.iload 4, 4, 0, 0, 0), (.invokevirtual 354, 199, 109, 1, 2), (.bipush 10, 0, 0, 0, 0), (.if_icmp .lt 28, 132, 0, 0, 0), (.aload_n 0, 0, 0, 0, 0), (.iload 4, 4, 0, 0, 0), (.invokevirtual 354, 199, 109, 1, 2), (.bipush 20, 0, 0, 0, 0), (.if_icmp .ge 17, 132, 0, 0, 0), (.iload_n 3, 3, 0, 0, 0), (.iconst 1, 0, 0, 0, 0), (.aload_n 0, 0, 0, 0, 0), (.iload 4, 4, 0, 0, 0), (.invokevirtual 354, 199, 109, 1, 2), (.bipush 10, 0, 0, 0, 0), (.isub, 0, 0, 0, 0), (.ishl, 0, 0, 0, 0), (.ior, 0, 0, 0, 0), (.istore_n 3, 3, 0, 0, 0)]
  | 132 => [(.iinc 4 1, 4, 0, 0, 0), (.goto (-76), 59, 0, 0, 0)]
  | 138 => [(.iload_n 3, 3, 0, 0, 0), (.ireturn, 0, 0, 0, 0)]
  | _ => []
set_option maxRecDepth 20000 in
theorem ck_267 : ∀ t, chkL 267 t (bk_267 t) = true := by
  intro t
  unfold bk_267
  split <;> first | decide +kernel | rfl
def cu_267 : Nat → Option (List Nat) := fun t => match t with | 59 => some [0, 2, 3, 4] | _ => none
/-- SluiceLogsModel.hangs(I)I -/
def bk_268 : Nat → List Ins := fun t => match t with
  | 0 => [(.aload_n 0, 0, 0, 0, 0), (.iload_n 1, 1, 0, 0, 0), (.invokevirtual 454, 196, 109, 1, 2), (.ifCond .ne 5, 10, 0, 0, 0), (.iconst (-1), 0, 0, 0, 0), (.ireturn, 0, 0, 0, 0)]
  | 10 => [(.aload_n 0, 0, 0, 0, 0), (.invokevirtual 444, 203, 109, 0, 2), (.iconst 0, 0, 0, 0, 0), (.istore_n 2, 2, 0, 0, 0), (.aload_n 0, 0, 0, 0, 0), (.getfield 369, 9, 56, 0, 0), (.ifCond .ne 13, 33, 0, 0, 0), (.aload_n 0, 0, 0, 0, 0), (.iload_n 1, 1, 0, 0, 0), (.invokevirtual 395, 217, 109, 1, 5), (.lconst 0, 0, 0, 0, 0), (.lcmp, 0, 0, 0, 0), (.ifCond .ne 5, 35, 0, 0, 0)]
  | 33 => [(.iconst 0, 0, 0, 0, 0), (.ireturn, 0, 0, 0, 0)]
  | 35 => [(.iconst 0, 0, 0, 0, 0), (.istore_n 3, 3, 0, 0, 0)]
  | 37 => [(.iload_n 3, 3, 0, 0, 0), (.aload_n 0, 0, 0, 0, 0), (.getfield 61, 9, 28, 2, 0), (.aload_n 0, 0, 0, 0, 0), (.getfield 245, 9, 18, 0, 0), (.iaload, 0, 0, 0, 0), (.if_icmp .ge 50, 97, 0, 0, 0), (.aload_n 0, 0, 0, 0, 0), (.invokevirtual 444, 203, 109, 0, 2), (.aload_n 0, 0, 0, 0, 0), (.getfield 119, 9, 51, 2, 0), (.bipush 18, 0, 0, 0, 0), (.iload_n 3, 3, 0, 0, 0), (.iadd, 0, 0, 0, 0), (.iconst 0, 0, 0, 0, 0), (.iastore, 0, 0, 0, 0), (.aload_n 0, 0, 0, 0, 0), (.invokevirtual 344, 213, 109, 0, 5), (.aload_n 0, 0, 0, 0, 0), (.getfield 369, 9, 56, 0, 0), (.ifCond .ne 19, 91, 0, 0, 0), (.aload_n 0, 0, 0, 0, 0), (.iload_n 1, 1, 0, 0, 0), (.invokevirtual 395, 217, 109, 1, 5), (.lconst 0, 0, 0, 0, 0), (.lcmp, 0, 0, 0, 0), (.ifCond .ne 9, 91, 0, 0, 0), (.iload_n 2, 2, 0, 0, 0), (.iconst 1, 0, 0, 0, 0), (.iload_n 3, 3, 0, 0, 0), (.ishl, 0, 0, 0, 0), (.ior, 0, 0, 0, 0), (.istore_n 2, 2, 0, 0, 0)]
  | 91 => [(.iinc 3 1, 3, 0, 0, 0), (.goto (-57), 37, 0, 0, 0)]
  | 97 => [(.iload_n 2, 2, 0, 0, 0), (.ireturn, 0, 0, 0, 0)]
  | _ => []
set_option maxRecDepth 20000 in
theorem ck_268 : ∀ t, chkL 268 t (bk_268 t) = true := by
  intro t
  unfold bk_268
  split <;> first | decide +kernel | rfl
def cu_268 : Nat → Option (List Nat) := fun t => match t with | 37 => some [0, 1, 2, 3] | _ => none
/-- SluiceLogsModel.crop(I)I -/
def bk_269 : Nat → List Ins := fun t => match t with
  | 0 => [(.iload_n 1, 1, 0, 0, 0), (.invokestatic 473, 242, 0, 1, 1), (.ifCond .ne 5, 9, 0, 0, 0), (.iconst (-1), 0, 0, 0, 0), (.ireturn, 0, 0, 0, 0)]
  | 9 => [(.aload_n 0, 0, 0, 0, 0), (.invokevirtual 444, 203, 109, 0, 2), (.aload_n 0, 0, 0, 0, 0), (.iconst 1, 0, 0, 0, 0), (.putfield 341, 9, 53, 3, 0), (.aload_n 0, 0, 0, 0, 0), (.iload_n 1, 1, 0, 0, 0), (.invokevirtual 476, 233, 109, 1, 3), (.iconst 0, 0, 0, 0, 0), (.istore_n 2, 2, 0, 0, 0), (.iconst 0, 0, 0, 0, 0), (.istore_n 3, 3, 0, 0, 0)]
  | 27 => [(.iload_n 3, 3, 0, 0, 0), (.aload_n 0, 0, 0, 0, 0), (.getfield 49, 9, 24, 2, 0), (.aload_n 0, 0, 0, 0, 0), (.getfield 245, 9, 18, 0, 0), (.iaload, 0, 0, 0, 0), (.if_icmp .ge 31, 68, 0, 0, 0), (.iload_n 2, 2, 0, 0, 0), (.aload_n 0, 0, 0, 0, 0), (.getfield 119, 9, 51, 2, 0), (.bipush 12, 0, 0, 0, 0), (.iload_n 3, 3, 0, 0, 0), (.iadd, 0, 0, 0, 0), (.iaload, 0, 0, 0, 0), (.aload_n 0, 0, 0, 0, 0), (.getfield 116, 9, 50, 2, 0), (.bipush 12, 0, 0, 0, 0), (.iload_n 3, 3, 0, 0, 0), (.iadd, 0, 0, 0, 0), (.iaload, 0, 0, 0, 0), (.isub, 0, 0, 0, 0), (.iadd, 0, 0, 0, 0), (.istore_n 2, 2, 0, 0, 0), (.iinc 3 1, 3, 0, 0, 0), (.goto (-38), 27, 0, 0, 0)]
  | 68 => [(.iload_n 2, 2, 0, 0, 0), (.ireturn, 0, 0, 0, 0)]
  | _ => []
set_option maxRecDepth 20000 in
theorem ck_269 : ∀ t, chkL 269 t (bk_269 t) = true := by
  intro t
  unfold bk_269
  split <;> first | decide +kernel | rfl
def cu_269 : Nat → Option (List Nat) := fun t => match t with | 27 => some [0, 2, 3] | _ => none
/-- SluiceLogsModel.again(II)I -/
def bk_270 : Nat → List Ins := fun t => match t with
  | 0 => [(.aload_n 0, 0, 0, 0, 0), (.iload_n 1, 1, 0, 0, 0), (.invokevirtual 454, 196, 109, 1, 2), (.ifCond .eq 24, 29, 0, 0, 0), (.iload_n 2, 2, 0, 0, 0), (.iconst 0, 0, 0, 0, 0), (.iconst 3, 0, 0, 0, 0), (.invokestatic 334, 192, 0, 3, 3), (.ifCond .eq 15, 29, 0, 0, 0), (.aload_n 0, 0, 0, 0, 0), (.getfield 46, 9, 23, 2, 0), (.aload_n 0, 0, 0, 0, 0), (.getfield 245, 9, 18, 0, 0), (.iaload, 0, 0, 0, 0), (.ifCond .ne 5, 31, 0, 0, 0)]
  | 29 => [(.iconst (-1), 0, 0, 0, 0), (.ireturn, 0, 0, 0, 0)]
  | 31 => [(.aload_n 0, 0, 0, 0, 0), (.invokevirtual 444, 203, 109, 0, 2), (.aload_n 0, 0, 0, 0, 0), (.getfield 119, 9, 51, 2, 0), (.bipush 6, 0, 0, 0, 0), (.iload_n 1, 1, 0, 0, 0), (.iadd, 0, 0, 0, 0), (.iload_n 2, 2, 0, 0, 0), (.iastore, 0, 0, 0, 0), (.aload_n 0, 0, 0, 0, 0), (.getfield 119, 9, 51, 2, 0), (.iload_n 1, 1, 0, 0, 0), (.iaload, 0, 0, 0, 0), (.ifCond .ge 10, 61, 0, 0, 0), (.aload_n 0, 0, 0, 0, 0), (.getfield 119, 9, 51, 2, 0), (.iload_n 1, 1, 0, 0, 0), (.iconst 0, 0, 0, 0, 0), (.iastore, 0, 0, 0, 0)]
  | 61 => [(.aload_n 0, 0, 0, 0, 0), (.invokevirtual 344, 213, 109, 0, 5), (.aload_n 0, 0, 0, 0, 0), (.iload_n 1, 1, 0, 0, 0), (.invokevirtual 408, 219, 109, 1, 2), (.ireturn, 0, 0, 0, 0)]
  | _ => []
set_option maxRecDepth 20000 in
theorem ck_270 : ∀ t, chkL 270 t (bk_270 t) = true := by
  intro t
  unfold bk_270
  split <;> first | decide +kernel | rfl
def cu_270 : Nat → Option (List Nat) := fun _ => none
/-- SluiceLogsModel.swap()I -/
def bk_271 : Nat → List Ins := fun t => match t with
  | 0 => [(.aload_n 0, 0, 0, 0, 0), (.invokevirtual 444, 203, 109, 0, 2), (.aload_n 0, 0, 0, 0, 0), (.invokevirtual 488, 228, 109, 0, 3), (.invokestatic 530, 194, 0, 1, 3), (.istore_n 1, 1, 0, 0, 0), (.bipush (-2), 0, 0, 0, 0), (.istore_n 2, 2, 0, 0, 0), (.iconst 0, 0, 0, 0, 0), (.istore_n 3, 3, 0, 0, 0)]
  | 17 => [(.iload_n 3, 3, 0, 0, 0), (.aload_n 0, 0, 0, 0, 0), (.getfield 61, 9, 28, 2, 0), (.aload_n 0, 0, 0, 0, 0), (.getfield 245, 9, 18, 0, 0), (.iaload, 0, 0, 0, 0), (.if_icmp .ge 110, 137, 0, 0, 0), (.iload_n 3, 3, 0, 0, 0), (.iconst 1, 0, 0, 0, 0), (.iadd, 0, 0, 0, 0), (.istore 4, 4, 0, 0, 0)]
  | 35 => [(.iload 4, 4, 0, 0, 0), (.aload_n 0, 0, 0, 0, 0), (.getfield 61, 9, 28, 2, 0), (.aload_n 0, 0, 0, 0, 0), (.getfield 245, 9, 18, 0, 0), (.iaload, 0, 0, 0, 0), (.if_icmp .ge 85, 131, 0, 0, 0), (.aload_n 0, 0, 0, 0, 0), (.invokevirtual 444, 203, 109, 0, 2), (.aload_n 0, 0, 0, 0, 0), (.getfield 119, 9, 51, 2, 0), (.bipush 18, 0, 0, 0, 0), (.iload_n 3, 3, 0, 0, 0), (.iadd, 0, 0, 0, 0), (.aload_n 0, 0, 0, 0, 0), (.getfield 116, 9, 50, 2, 0), (.bipush 18, 0, 0, 0, 0), (.iload 4, 4, 0, 0, 0), (.iadd, 0, 0, 0, 0), (.iaload, 0, 0, 0, 0), (.iastore, 0, 0, 0, 0), (.aload_n 0, 0, 0, 0, 0), (.getfield 119, 9, 51, 2, 0), (.bipush 18, 0, 0, 0, 0), (.iload 4, 4, 0, 0, 0), (.iadd, 0, 0, 0, 0), (.aload_n 0, 0, 0, 0, 0), (.getfield 116, 9, 50, 2, 0), (.bipush 18, 0, 0, 0, 0), (.iload_n 3, 3, 0, 0, 0), (.iadd, 0, 0, 0, 0), (.iaload, 0, 0, 0, 0), (.iastore, 0, 0, 0, 0), (.aload_n 0, 0, 0, 0, 0), (.invokevirtual 344, 213, 109, 0, 5), (.aload_n 0, 0, 0, 0, 0), (.invokevirtual 488, 228, 109, 0, 3), (.invokestatic 530, 194, 0, 1, 3), (.iload_n 1, 1, 0, 0, 0), (.if_icmp .lt 6, 109, 0, 0, 0), (.goto 19, 125, 0, 0, 0)]
  | 109 => [(.bipush 100, 0, 0, 0, 0), (.iload_n 3, 3, 0, 0, 0), (.imul, 0, 0, 0, 0), (.iload 4, 4, 0, 0, 0), (.iadd, 0, 0, 0, 0), (.istore_n 2, 2, 0, 0, 0), (.aload_n 0, 0, 0, 0, 0), (.invokevirtual 488, 228, 109, 0, 3), (.invokestatic 530, 194, 0, 1, 3), (.istore_n 1, 1, 0, 0, 0)]
  | 125 => [(.iinc 4 1, 4, 0, 0, 0), (.goto (-93), 35, 0, 0, 0)]
  | 131 => [(.iinc 3 1, 3, 0, 0, 0), (.goto (-117), 17, 0, 0, 0)]
  | 137 => [(.iload_n 2, 2, 0, 0, 0), (.ireturn, 0, 0, 0, 0)]
  | _ => []
set_option maxRecDepth 20000 in
theorem ck_271 : ∀ t, chkL 271 t (bk_271 t) = true := by
  intro t
  unfold bk_271
  split <;> first | decide +kernel | rfl
def cu_271 : Nat → Option (List Nat) := fun t => match t with | 17 => some [0, 1, 2, 3] | 35 => some [0, 1, 2, 3, 4] | _ => none
/-- SluiceLogsModel.grownIn(II)I -/
def bk_272 : Nat → List Ins := fun t => match t with
  | 0 => [(.aload_n 0, 0, 0, 0, 0), (.iload_n 1, 1, 0, 0, 0), (.invokevirtual 454, 196, 109, 1, 2), (.ifCond .eq 10, 15, 0, 0, 0), (.iload_n 2, 2, 0, 0, 0), (.invokestatic 473, 242, 0, 1, 1), (.ifCond .ne 5, 17, 0, 0, 0)]
  | 15 => [(.iconst (-1), 0, 0, 0, 0), (.ireturn, 0, 0, 0, 0)]
  | 17 => [(.aload_n 0, 0, 0, 0, 0), (.invokevirtual 444, 203, 109, 0, 2), (.aload_n 0, 0, 0, 0, 0), (.iload_n 2, 2, 0, 0, 0), (.invokevirtual 476, 233, 109, 1, 3), (.aload_n 0, 0, 0, 0, 0), (.getfield 119, 9, 51, 2, 0), (.bipush 12, 0, 0, 0, 0), (.iload_n 1, 1, 0, 0, 0), (.iadd, 0, 0, 0, 0), (.iaload, 0, 0, 0, 0), (.ireturn, 0, 0, 0, 0)]
  | _ => []
set_option maxRecDepth 20000 in
theorem ck_272 : ∀ t, chkL 272 t (bk_272 t) = true := by
  intro t
  unfold bk_272
  split <;> first | decide +kernel | rfl
def cu_272 : Nat → Option (List Nat) := fun _ => none
/-- SluiceLogsModel.wideIn(II)I -/
def bk_273 : Nat → List Ins := fun t => match t with
  | 0 => [(.aload_n 0, 0, 0, 0, 0), (.iload_n 1, 1, 0, 0, 0), (.invokevirtual 457, 197, 109, 1, 2), (.ifCond .eq 10, 15, 0, 0, 0), (.iload_n 2, 2, 0, 0, 0), (.invokestatic 473, 242, 0, 1, 1), (.ifCond .ne 5, 17, 0, 0, 0)]
  | 15 => [(.iconst (-1), 0, 0, 0, 0), (.ireturn, 0, 0, 0, 0)]
  | 17 => [(.aload_n 0, 0, 0, 0, 0), (.invokevirtual 444, 203, 109, 0, 2), (.aload_n 0, 0, 0, 0, 0), (.iload_n 2, 2, 0, 0, 0), (.invokevirtual 476, 233, 109, 1, 3), (.aload_n 0, 0, 0, 0, 0), (.iload_n 1, 1, 0, 0, 0), (.invokevirtual 357, 200, 109, 1, 2), (.ireturn, 0, 0, 0, 0)]
  | _ => []
set_option maxRecDepth 20000 in
theorem ck_273 : ∀ t, chkL 273 t (bk_273 t) = true := by
  intro t
  unfold bk_273
  split <;> first | decide +kernel | rfl
def cu_273 : Nat → Option (List Nat) := fun _ => none
/-- SluiceLogsModel.year(III)I -/
def bk_274 : Nat → List Ins := fun t => match t with
  | 0 => [(.aload_n 0, 0, 0, 0, 0), (.iload_n 1, 1, 0, 0, 0), (.invokevirtual 454, 196, 109, 1, 2), (.ifCond .eq 20, 25, 0, 0, 0), (.iload_n 2, 2, 0, 0, 0), (.invokestatic 473, 242, 0, 1, 1), (.ifCond .eq 13, 25, 0, 0, 0), (.iload_n 3, 3, 0, 0, 0), (.iconst 1, 0, 0, 0, 0), (.bipush 20, 0, 0, 0, 0), (.invokestatic 334, 192, 0, 3, 3), (.ifCond .ne 5, 27, 0, 0, 0)]
  | 25 => [(.iconst (-1), 0, 0, 0, 0), (.ireturn, 0, 0, 0, 0)]
  | 27 => [(.iconst 0, 0, 0, 0, 0), (.istore 4, 4, 0, 0, 0), (.iconst 0, 0, 0, 0, 0), (.istore 5, 5, 0, 0, 0)]
  | 33 => [(.iload 5, 5, 0, 0, 0), (.iload_n 3, 3, 0, 0, 0), (.if_icmp .ge 40, 76, 0, 0, 0), (.aload_n 0, 0, 0, 0, 0), (.invokevirtual 444, 203, 109, 0, 2), (.aload_n 0, 0, 0, 0, 0), (.dup, 0, 0, 0, 0), (.getfield 338, 9, 52, 0, 0), (.iload 5, 5, 0, 0, 0), (.iadd, 0, 0, 0, 0), (.putfield 338, 9, 52, 0, 0), (.aload_n 0, 0, 0, 0, 0), (.iload_n 2, 2, 0, 0, 0), (.invokevirtual 476, 233, 109, 1, 3), (.aload_n 0, 0, 0, 0, 0), (.iload_n 1, 1, 0, 0, 0), (.invokevirtual 423, 227, 109, 1, 2), (.ifCond .eq 6, 70, 0, 0, 0), (.iinc 4 1, 4, 0, 0, 0)]
  | 70 => [(.iinc 5 1, 5, 0, 0, 0), (.goto (-40), 33, 0, 0, 0)]
  | 76 => [(.iload 4, 4, 0, 0, 0), (.ireturn, 0, 0, 0, 0)]
  | _ => []
set_option maxRecDepth 20000 in
theorem ck_274 : ∀ t, chkL 274 t (bk_274 t) = true := by
  intro t
  unfold bk_274
  split <;> first | decide +kernel | rfl
def cu_274 : Nat → Option (List Nat) := fun t => match t with | 33 => some [0, 1, 2, 3, 4, 5] | _ => none
/-- SluiceLogsModel.tell(IIZ)I -/
def bk_275 : Nat → List Ins := fun t => match t with
  | 0 => [(.aload_n 0, 0, 0, 0, 0), (.getfield 266, 9, 67, 0, 0), (.bipush 20, 0, 0, 0, 0), (.if_icmp .eq 20, 26, 0, 0, 0), (.aload_n 0, 0, 0, 0, 0), (.iload_n 1, 1, 0, 0, 0), (.invokevirtual 454, 196, 109, 1, 2), (.ifCond .eq 12, 26, 0, 0, 0), (.iload_n 2, 2, 0, 0, 0), (.iconst 0, 0, 0, 0, 0), (.iconst 2, 0, 0, 0, 0), (.invokestatic 334, 192, 0, 3, 3), (.ifCond .ne 5, 28, 0, 0, 0)]
  | 26 => [(.iconst (-1), 0, 0, 0, 0), (.ireturn, 0, 0, 0, 0)]
  | 28 => [(.aload_n 0, 0, 0, 0, 0), (.getfield 146, 9, 68, 2, 0), (.aload_n 0, 0, 0, 0, 0), (.getfield 266, 9, 67, 0, 0), (.iload_n 1, 1, 0, 0, 0), (.iastore, 0, 0, 0, 0), (.aload_n 0, 0, 0, 0, 0), (.getfield 149, 9, 69, 2, 0), (.aload_n 0, 0, 0, 0, 0), (.getfield 266, 9, 67, 0, 0), (.iload_n 2, 2, 0, 0, 0), (.iastore, 0, 0, 0, 0), (.aload_n 0, 0, 0, 0, 0), (.getfield 152, 9, 70, 2, 0), (.aload_n 0, 0, 0, 0, 0), (.getfield 266, 9, 67, 0, 0), (.iload_n 3, 3, 0, 0, 0), (.bastore, 0, 0, 0, 0), (.aload_n 0, 0, 0, 0, 0), (.dup, 0, 0, 0, 0), (.getfield 266, 9, 67, 0, 0), (.iconst 1, 0, 0, 0, 0), (.iadd, 0, 0, 0, 0), (.putfield 266, 9, 67, 0, 0), (.aload_n 0, 0, 0, 0, 0), (.getfield 266, 9, 67, 0, 0), (.iconst 1, 0, 0, 0, 0), (.isub, 0, 0, 0, 0), (.ireturn, 0, 0, 0, 0)]
  | _ => []
set_option maxRecDepth 20000 in
theorem ck_275 : ∀ t, chkL 275 t (bk_275 t) = true := by
  intro t
  unfold bk_275
  split <;> first | decide +kernel | rfl
def cu_275 : Nat → Option (List Nat) := fun _ => none
/-- SluiceLogsModel.forget()I -/
def bk_276 : Nat → List Ins := fun t => match t with
  | 0 => [(.aload_n 0, 0, 0, 0, 0), (.getfield 266, 9, 67, 0, 0), (.istore_n 1, 1, 0, 0, 0), (.aload_n 0, 0, 0, 0, 0), (.iconst 0, 0, 0, 0, 0), (.putfield 266, 9, 67, 0, 0), (.iload_n 1, 1, 0, 0, 0), (.ireturn, 0, 0, 0, 0)]
  | _ => []
set_option maxRecDepth 20000 in
theorem ck_276 : ∀ t, chkL 276 t (bk_276 t) = true := by
  intro t
  unfold bk_276
  split <;> first | decide +kernel | rfl
def cu_276 : Nat → Option (List Nat) := fun _ => none
/-- SluiceLogsModel.fitBits(I)I -/
def bk_277 : Nat → List Ins := fun t => match t with
  | 0 => [(.aload_n 0, 0, 0, 0, 0), (.invokevirtual 444, 203, 109, 0, 2), (.aload_n 0, 0, 0, 0, 0), (.invokevirtual 510, 231, 109, 0, 3), (.istore_n 2, 2, 0, 0, 0), (.iconst 0, 0, 0, 0, 0), (.istore_n 3, 3, 0, 0, 0), (.iconst 0, 0, 0, 0, 0), (.istore 4, 4, 0, 0, 0)]
  | 14 => [(.iload 4, 4, 0, 0, 0), (.bipush 24, 0, 0, 0, 0), (.if_icmp .ge 145, 163, 0, 0, 0), (.iload_n 2, 2, 0, 0, 0), (.iload 4, 4, 0, 0, 0), (.ishr, 0, 0, 0, 0), (.iconst 1, 0, 0, 0, 0), (.iand, 0, 0, 0, 0), (.ifCond .ne 6, 33, 0, 0, 0), (.goto 127, 157, 0, 0, 0)]
  | 33 => [(.aload_n 0, 0, 0, 0, 0), (.iload 4, 4, 0, 0, 0), (.invokevirtual 504, 255, 109, 1, 2), (.iconst 0, 0, 0, 0, 0), (.istore 5, 5, 0, 0, 0)]
  | 42 => [(.iload 5, 5, 0, 0, 0), (.aload_n 0, 0, 0, 0, 0), (.getfield 49, 9, 24, 2, 0), (.aload_n 0, 0, 0, 0, 0), (.getfield 245, 9, 18, 0, 0), (.iaload, 0, 0, 0, 0), (.if_icmp .ge 28, 81, 0, 0, 0), (.aload_n 0, 0, 0, 0, 0), (.getfield 155, 9, 71, 2, 0), (.bipush 6, 0, 0, 0, 0), (.iload 4, 4, 0, 0, 0), (.imul, 0, 0, 0, 0), (.iload 5, 5, 0, 0, 0), (.iadd, 0, 0, 0, 0), (.aload_n 0, 0, 0, 0, 0), (.iload 5, 5, 0, 0, 0), (.invokevirtual 507, 256, 109, 1, 6), (.iastore, 0, 0, 0, 0), (.iinc 5 1, 5, 0, 0, 0), (.goto (-36), 42, 0, 0, 0)]
  | 81 => [(.iconst 1, 0, 0, 0, 0), (.istore 5, 5, 0, 0, 0), (.iconst 0, 0, 0, 0, 0), (.istore 6, 6, 0, 0, 0)]
  | 87 => [(.iload 6, 6, 0, 0, 0), (.iload_n 1, 1, 0, 0, 0), (.if_icmp .ge 55, 145, 0, 0, 0), (.aload_n 0, 0, 0, 0, 0), (.getfield 155, 9, 71, 2, 0), (.bipush 6, 0, 0, 0, 0), (.iload 4, 4, 0, 0, 0), (.imul, 0, 0, 0, 0), (.aload_n 0, 0, 0, 0, 0), (.getfield 146, 9, 68, 2, 0), (.iload 6, 6, 0, 0, 0), (.iaload, 0, 0, 0, 0), (.iadd, 0, 0, 0, 0), (.iaload, 0, 0, 0, 0), (.aload_n 0, 0, 0, 0, 0), (.getfield 149, 9, 69, 2, 0), (.iload 6, 6, 0, 0, 0), (.iaload, 0, 0, 0, 0), (.if_icmp .ne 7, 125, 0, 0, 0), (.iconst 1, 0, 0, 0, 0), (.goto 4, 126, 0, 0, 0)]
  | 125 => [(.iconst 0, 0, 0, 0, 0)]
  | 126 => [(.aload_n 0, 0, 0, 0, 0), (.getfield 152, 9, 70, 2, 0), (.iload 6, 6, 0, 0, 0), (.baload, 0, 0, 0, 0), (.if_icmp .eq 6, 139, 0, 0, 0), (.iconst 0, 0, 0, 0, 0), (.istore 5, 5, 0, 0, 0)]
  | 139 => [(.iinc 6 1, 6, 0, 0, 0), (.goto (-55), 87, 0, 0, 0)]
  | 145 => [(.iload 5, 5, 0, 0, 0), (.ifCond .eq 10, 157, 0, 0, 0), (.iload_n 3, 3, 0, 0, 0), (.iconst 1, 0, 0, 0, 0), (.iload 4, 4, 0, 0, 0), (.ishl, 0, 0, 0, 0), (.ior, 0, 0, 0, 0), (.istore_n 3, 3, 0, 0, 0)]
  | 157 => [(.iinc 4 1, 4, 0, 0, 0), (.goto (-146), 14, 0, 0, 0)]
  | 163 => [(.iload_n 3, 3, 0, 0, 0), (.ireturn, 0, 0, 0, 0)]
  | _ => []
set_option maxRecDepth 20000 in
theorem ck_277 : ∀ t, chkL 277 t (bk_277 t) = true := by
  intro t
  unfold bk_277
  split <;> first | decide +kernel | rfl
def cu_277 : Nat → Option (List Nat) := fun t => match t with | 14 => some [0, 1, 2, 3, 4] | 42 => some [0, 1, 2, 3, 4, 5] | 87 => some [0, 1, 2, 3, 4, 5, 6] | _ => none
/-- SluiceLogsModel.fits(II)I -/
def bk_278 : Nat → List Ins := fun t => match t with
  | 0 => [(.iload_n 1, 1, 0, 0, 0), (.iconst 0, 0, 0, 0, 0), (.aload_n 0, 0, 0, 0, 0), (.getfield 266, 9, 67, 0, 0), (.invokestatic 334, 192, 0, 3, 3), (.ifCond .eq 12, 21, 0, 0, 0), (.iload_n 2, 2, 0, 0, 0), (.iconst 0, 0, 0, 0, 0), (.iconst 1, 0, 0, 0, 0), (.invokestatic 334, 192, 0, 3, 3), (.ifCond .ne 5, 23, 0, 0, 0)]
  | 21 => [(.iconst (-1), 0, 0, 0, 0), (.ireturn, 0, 0, 0, 0)]
  | 23 => [(.aload_n 0, 0, 0, 0, 0), (.iload_n 1, 1, 0, 0, 0), (.invokevirtual 533, 277, 109, 1, 7), (.istore_n 3, 3, 0, 0, 0), (.iload_n 2, 2, 0, 0, 0), (.ifCond .ne 10, 40, 0, 0, 0), (.iload_n 3, 3, 0, 0, 0), (.invokestatic 530, 194, 0, 1, 3), (.goto 4, 41, 0, 0, 0)]
  | 40 => [(.iload_n 3, 3, 0, 0, 0)]
  | 41 => [(.ireturn, 0, 0, 0, 0)]
  | _ => []
set_option maxRecDepth 20000 in
theorem ck_278 : ∀ t, chkL 278 t (bk_278 t) = true := by
  intro t
  unfold bk_278
  split <;> first | decide +kernel | rfl
def cu_278 : Nat → Option (List Nat) := fun _ => none
/-- SluiceLogsModel.worstBy(II)I -/
def bk_279 : Nat → List Ins := fun t => match t with
  | 0 => [(.iconst 0, 0, 0, 0, 0), (.istore_n 3, 3, 0, 0, 0), (.iconst 0, 0, 0, 0, 0), (.istore 4, 4, 0, 0, 0)]
  | 5 => [(.iload 4, 4, 0, 0, 0), (.iconst 3, 0, 0, 0, 0), (.if_icmp .ge 67, 75, 0, 0, 0), (.iconst 0, 0, 0, 0, 0), (.istore 5, 5, 0, 0, 0), (.iconst 0, 0, 0, 0, 0), (.istore 6, 6, 0, 0, 0)]
  | 17 => [(.iload 6, 6, 0, 0, 0), (.bipush 24, 0, 0, 0, 0), (.if_icmp .ge 39, 60, 0, 0, 0), (.iload_n 1, 1, 0, 0, 0), (.iload 6, 6, 0, 0, 0), (.ishr, 0, 0, 0, 0), (.iconst 1, 0, 0, 0, 0), (.iand, 0, 0, 0, 0), (.iconst 1, 0, 0, 0, 0), (.if_icmp .ne 23, 54, 0, 0, 0), (.aload_n 0, 0, 0, 0, 0), (.getfield 155, 9, 71, 2, 0), (.bipush 6, 0, 0, 0, 0), (.iload 6, 6, 0, 0, 0), (.imul, 0, 0, 0, 0), (.iload_n 2, 2, 0, 0, 0), (.iadd, 0, 0, 0, 0), (.iaload, 0, 0, 0, 0), (.iload 4, 4, 0, 0, 0), (.if_icmp .ne 6, 54, 0, 0, 0), (.iinc 5 1, 5, 0, 0, 0)]
  | 54 => [(.iinc 6 1, 6, 0, 0, 0), (.goto (-40), 17, 0, 0, 0)]
  | 60 => [(.iload 5, 5, 0, 0, 0), (.iload_n 3, 3, 0, 0, 0), (.if_icmp .le 6, 69, 0, 0, 0), (.iload 5, 5, 0, 0, 0), (.istore_n 3, 3, 0, 0, 0)]
  | 69 => [(.iinc 4 1, 4, 0, 0, 0), (.goto (-67), 5, 0, 0, 0)]
  | 75 => [(.iload_n 3, 3, 0, 0, 0), (.ireturn, 0, 0, 0, 0)]
  | _ => []
set_option maxRecDepth 20000 in
theorem ck_279 : ∀ t, chkL 279 t (bk_279 t) = true := by
  intro t
  unfold bk_279
  split <;> first | decide +kernel | rfl
def cu_279 : Nat → Option (List Nat) := fun t => match t with | 5 => some [0, 1, 2, 3, 4] | 17 => some [0, 1, 2, 3, 4, 5, 6] | _ => none
/-- SluiceLogsModel.ask(I)I -/
def bk_280 : Nat → List Ins := fun t => match t with
  | 0 => [(.iload_n 1, 1, 0, 0, 0), (.iconst 0, 0, 0, 0, 0), (.aload_n 0, 0, 0, 0, 0), (.getfield 266, 9, 67, 0, 0), (.invokestatic 334, 192, 0, 3, 3), (.ifCond .ne 5, 14, 0, 0, 0), (.iconst (-1), 0, 0, 0, 0), (.ireturn, 0, 0, 0, 0)]
  | 14 => [(.aload_n 0, 0, 0, 0, 0), (.iload_n 1, 1, 0, 0, 0), (.invokevirtual 533, 277, 109, 1, 7), (.istore_n 2, 2, 0, 0, 0), (.bipush (-2), 0, 0, 0, 0), (.istore_n 3, 3, 0, 0, 0), (.iconst 0, 0, 0, 0, 0), (.istore 4, 4, 0, 0, 0), (.iconst 0, 0, 0, 0, 0), (.istore 5, 5, 0, 0, 0)]
  | 29 => [(.iload 5, 5, 0, 0, 0), (.aload_n 0, 0, 0, 0, 0), (.getfield 49, 9, 24, 2, 0), (.aload_n 0, 0, 0, 0, 0), (.getfield 245, 9, 18, 0, 0), (.iaload, 0, 0, 0, 0), (.if_icmp .ge 43, 83, 0, 0, 0), (.iload_n 2, 2, 0, 0, 0), (.ifCond .eq 39, 83, 0, 0, 0), (.aload_n 0, 0, 0, 0, 0), (.iload_n 2, 2, 0, 0, 0), (.iload 5, 5, 0, 0, 0), (.invokevirtual 536, 279, 109, 2, 7), (.istore 6, 6, 0, 0, 0), (.iload_n 3, 3, 0, 0, 0), (.ifCond .lt 13, 70, 0, 0, 0), (.iload 6, 6, 0, 0, 0), (.iload 4, 4, 0, 0, 0), (.if_icmp .lt 6, 70, 0, 0, 0), (.goto 10, 77, 0, 0, 0)]
  | 70 => [(.iload 5, 5, 0, 0, 0), (.istore_n 3, 3, 0, 0, 0), (.iload 6, 6, 0, 0, 0), (.istore 4, 4, 0, 0, 0)]
  | 77 => [(.iinc 5 1, 5, 0, 0, 0), (.goto (-51), 29, 0, 0, 0)]
  | 83 => [(.iload_n 3, 3, 0, 0, 0), (.ireturn, 0, 0, 0, 0)]
  | _ => []
set_option maxRecDepth 20000 in
theorem ck_280 : ∀ t, chkL 280 t (bk_280 t) = true := by
  intro t
  unfold bk_280
  split <;> first | decide +kernel | rfl
def cu_280 : Nat → Option (List Nat) := fun t => match t with | 29 => some [0, 2, 3, 4, 5] | _ => none
/-- SluiceLogsModel.hold(I)Z -/
def bk_281 : Nat → List Ins := fun t => match t with
  | 0 => [(.iload_n 1, 1, 0, 0, 0), (.iconst 0, 0, 0, 0, 0), (.iconst 2, 0, 0, 0, 0), (.invokestatic 334, 192, 0, 3, 3), (.ifCond .ne 5, 11, 0, 0, 0), (.iconst 0, 0, 0, 0, 0), (.ireturn, 3, 0, 0, 0)]
  | 11 => [(.aload_n 0, 0, 0, 0, 0), (.getfield 158, 9, 72, 2, 0), (.iload_n 1, 1, 0, 0, 0), (.iconst 1, 0, 0, 0, 0), (.bastore, 0, 0, 0, 0), (.iconst 0, 0, 0, 0, 0), (.istore_n 2, 2, 0, 0, 0)]
  | 20 => [(.iload_n 2, 2, 0, 0, 0), (.bipush 33, 0, 0, 0, 0), (.if_icmp .ge 26, 49, 0, 0, 0), (.aload_n 0, 0, 0, 0, 0), (.getfield 161, 9, 73, 2, 0), (.bipush 33, 0, 0, 0, 0), (.iload_n 1, 1, 0, 0, 0), (.imul, 0, 0, 0, 0), (.iload_n 2, 2, 0, 0, 0), (.iadd, 0, 0, 0, 0), (.aload_n 0, 0, 0, 0, 0), (.getfield 116, 9, 50, 2, 0), (.iload_n 2, 2, 0, 0, 0), (.iaload, 0, 0, 0, 0), (.iastore, 0, 0, 0, 0), (.iinc 2 1, 2, 0, 0, 0), (.goto (-26), 20, 0, 0, 0)]
  | 49 => [(.iconst 1, 0, 0, 0, 0), (.ireturn, 3, 0, 0, 0)]
  | _ => []
set_option maxRecDepth 20000 in
theorem ck_281 : ∀ t, chkL 281 t (bk_281 t) = true := by
  intro t
  unfold bk_281
  split <;> first | decide +kernel | rfl
def cu_281 : Nat → Option (List Nat) := fun t => match t with | 20 => some [0, 1, 2] | _ => none
/-- SluiceLogsModel.restore(I)Z -/
def bk_282 : Nat → List Ins := fun t => match t with
  | 0 => [(.iload_n 1, 1, 0, 0, 0), (.iconst 0, 0, 0, 0, 0), (.iconst 2, 0, 0, 0, 0), (.invokestatic 334, 192, 0, 3, 3), (.ifCond .eq 12, 18, 0, 0, 0), (.aload_n 0, 0, 0, 0, 0), (.getfield 158, 9, 72, 2, 0), (.iload_n 1, 1, 0, 0, 0), (.baload, 0, 0, 0, 0), (.ifCond .ne 5, 20, 0, 0, 0)]
  | 18 => [(.iconst 0, 0, 0, 0, 0), (.ireturn, 3, 0, 0, 0)]
  | 20 => [(.iconst 0, 0, 0, 0, 0), (.istore_n 2, 2, 0, 0, 0)]
  | 22 => [(.iload_n 2, 2, 0, 0, 0), (.bipush 33, 0, 0, 0, 0), (.if_icmp .ge 26, 51, 0, 0, 0), (.aload_n 0, 0, 0, 0, 0), (.getfield 116, 9, 50, 2, 0), (.iload_n 2, 2, 0, 0, 0), (.aload_n 0, 0, 0, 0, 0), (.getfield 161, 9, 73, 2, 0), (.bipush 33, 0, 0, 0, 0), (.iload_n 1, 1, 0, 0, 0), (.imul, 0, 0, 0, 0), (.iload_n 2, 2, 0, 0, 0), (.iadd, 0, 0, 0, 0), (.iaload, 0, 0, 0, 0), (.iastore, 0, 0, 0, 0), (.iinc 2 1, 2, 0, 0, 0), (.goto (-26), 22, 0, 0, 0)]
  | 51 => [(.aload_n 0, 0, 0, 0, 0), (.iconst 0, 0, 0, 0, 0), (.putfield 263, 9, 61, 0, 0), (.iconst 1, 0, 0, 0, 0), (.ireturn, 3, 0, 0, 0)]
  | _ => []
set_option maxRecDepth 20000 in
theorem ck_282 : ∀ t, chkL 282 t (bk_282 t) = true := by
  intro t
  unfold bk_282
  split <;> first | decide +kernel | rfl
def cu_282 : Nat → Option (List Nat) := fun t => match t with | 22 => some [0, 1, 2] | _ => none
/-- SluiceLogsModel.count(I)I -/
def bk_283 : Nat → List Ins := fun t => match t with
  | 0 => [(.aload_n 0, 0, 0, 0, 0), (.invokevirtual 444, 203, 109, 0, 2), (.iconst 0, 0, 0, 0, 0), (.istore_n 2, 2, 0, 0, 0), (.iload_n 1, 1, 0, 0, 0), (.tableswitch 267 0 13 #[69, 79, 89, 99, 107, 115, 123, 136, 167, 172, 177, 182, 227, 262], 0, 0, 0, 0)]
  | 76 => [(.aload_n 0, 0, 0, 0, 0), (.getfield 46, 9, 23, 2, 0), (.aload_n 0, 0, 0, 0, 0), (.getfield 245, 9, 18, 0, 0), (.iaload, 0, 0, 0, 0), (.ireturn, 0, 0, 0, 0)]
  | 86 => [(.aload_n 0, 0, 0, 0, 0), (.getfield 49, 9, 24, 2, 0), (.aload_n 0, 0, 0, 0, 0), (.getfield 245, 9, 18, 0, 0), (.iaload, 0, 0, 0, 0), (.ireturn, 0, 0, 0, 0)]
  | 96 => [(.aload_n 0, 0, 0, 0, 0), (.getfield 61, 9, 28, 2, 0), (.aload_n 0, 0, 0, 0, 0), (.getfield 245, 9, 18, 0, 0), (.iaload, 0, 0, 0, 0), (.ireturn, 0, 0, 0, 0)]
  | 106 => [(.aload_n 0, 0, 0, 0, 0), (.getfield 119, 9, 51, 2, 0), (.bipush 31, 0, 0, 0, 0), (.iaload, 0, 0, 0, 0), (.ireturn, 0, 0, 0, 0)]
  | 114 => [(.aload_n 0, 0, 0, 0, 0), (.getfield 119, 9, 51, 2, 0), (.bipush 32, 0, 0, 0, 0), (.iaload, 0, 0, 0, 0), (.ireturn, 0, 0, 0, 0)]
  | 122 => [(.aload_n 0, 0, 0, 0, 0), (.getfield 119, 9, 51, 2, 0), (.bipush 30, 0, 0, 0, 0), (.iaload, 0, 0, 0, 0), (.ireturn, 0, 0, 0, 0)]
  | 130 => [(.aload_n 0, 0, 0, 0, 0), (.getfield 369, 9, 56, 0, 0), (.ifCond .eq 7, 141, 0, 0, 0), (.iconst 1, 0, 0, 0, 0), (.goto 4, 142, 0, 0, 0)]
  | 141 => [(.iconst 0, 0, 0, 0, 0)]
  | 142 => [(.ireturn, 0, 0, 0, 0)]
  | 143 => [(.iconst 0, 0, 0, 0, 0), (.istore_n 3, 3, 0, 0, 0)]
  | 145 => [(.iload_n 3, 3, 0, 0, 0), (.aload_n 0, 0, 0, 0, 0), (.getfield 49, 9, 24, 2, 0), (.aload_n 0, 0, 0, 0, 0), (.getfield 245, 9, 18, 0, 0), (.iaload, 0, 0, 0, 0), (.if_icmp .ge 17, 172, 0, 0, 0), (.iload_n 2, 2, 0, 0, 0), (.aload_n 0, 0, 0, 0, 0), (.iload_n 3, 3, 0, 0, 0), (.invokevirtual 408, 219, 109, 1, 2), (.iadd, 0, 0, 0, 0), (.istore_n 2, 2, 0, 0, 0), (.iinc 3 1, 3, 0, 0, 0), (.goto (-24), 145, 0, 0, 0)]
  | 172 => [(.iload_n 2, 2, 0, 0, 0), (.ireturn, 0, 0, 0, 0)]
  | 174 => [(.aload_n 0, 0, 0, 0, 0), (.getfield 178, 9, 2, 0, 0), (.ireturn, 0, 0, 0, 0)]
  | 179 => [(.aload_n 0, 0, 0, 0, 0), (.getfield 263, 9, 61, 0, 0), (.ireturn, 0, 0, 0, 0)]
  | 184 => [(.aload_n 0, 0, 0, 0, 0), (.getfield 266, 9, 67, 0, 0), (.ireturn, 0, 0, 0, 0)]
  | 189 => [(.aload_n 0, 0, 0, 0, 0), (.getfield 158, 9, 72, 2, 0), (.iconst 0, 0, 0, 0, 0), (.baload, 0, 0, 0, 0), (.ifCond .eq 7, 202, 0, 0, 0), (.iconst 1, 0, 0, 0, 0), (.goto 4, 203, 0, 0, 0)]
  | 202 => [(.iconst 0, 0, 0, 0, 0)]
  | 203 => [(.aload_n 0, 0, 0, 0, 0), (.getfield 158, 9, 72, 2, 0), (.iconst 1, 0, 0, 0, 0), (.baload, 0, 0, 0, 0), (.ifCond .eq 7, 216, 0, 0, 0), (.iconst 1, 0, 0, 0, 0), (.goto 4, 217, 0, 0, 0)]
  | 216 => [(.iconst 0, 0, 0, 0, 0)]
  | 217 => [(.iadd, 0, 0, 0, 0), (.aload_n 0, 0, 0, 0, 0), (.getfield 158, 9, 72, 2, 0), (.iconst 2, 0, 0, 0, 0), (.baload, 0, 0, 0, 0), (.ifCond .eq 7, 231, 0, 0, 0), (.iconst 1, 0, 0, 0, 0), (.goto 4, 232, 0, 0, 0)]
  | 231 => [(.iconst 0, 0, 0, 0, 0)]
  | 232 => [(.iadd, 0, 0, 0, 0), (.ireturn, 0, 0, 0, 0)]
  | 234 => [(.iconst 0, 0, 0, 0, 0), (.istore_n 3, 3, 0, 0, 0)]
  | 236 => [(.iload_n 3, 3, 0, 0, 0), (.aload_n 0, 0, 0, 0, 0), (.getfield 49, 9, 24, 2, 0), (.aload_n 0, 0, 0, 0, 0), (.getfield 245, 9, 18, 0, 0), (.iaload, 0, 0, 0, 0), (.if_icmp .ge 21, 267, 0, 0, 0), (.iload_n 2, 2, 0, 0, 0), (.aload_n 0, 0, 0, 0, 0), (.getfield 119, 9, 51, 2, 0), (.bipush 12, 0, 0, 0, 0), (.iload_n 3, 3, 0, 0, 0), (.iadd, 0, 0, 0, 0), (.iaload, 0, 0, 0, 0), (.iadd, 0, 0, 0, 0), (.istore_n 2, 2, 0, 0, 0), (.iinc 3 1, 3, 0, 0, 0), (.goto (-28), 236, 0, 0, 0)]
  | 267 => [(.iload_n 2, 2, 0, 0, 0), (.ireturn, 0, 0, 0, 0)]
  | 269 => [(.aload_n 0, 0, 0, 0, 0), (.invokevirtual 510, 231, 109, 0, 3), (.ireturn, 0, 0, 0, 0)]
  | 274 => [(.iconst (-1), 0, 0, 0, 0), (.ireturn, 0, 0, 0, 0)]
  | _ => []
set_option maxRecDepth 20000 in
theorem ck_283 : ∀ t, chkL 283 t (bk_283 t) = true := by
  intro t
  unfold bk_283
  split <;> first | decide +kernel | rfl
def cu_283 : Nat → Option (List Nat) := fun t => match t with | 145 => some [0, 2, 3] | 236 => some [0, 2, 3] | _ => none
