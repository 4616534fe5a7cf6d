/-! the reference's constructor (printed by program) -/
theorem newC_old {lo hi : Nat} {a b : Mem} (h : Kr lo hi a b) (r : Nat) (hr : lo ≤ r ∧ r < hi := by decide) : Kr lo hi a (newC b r) := fun r' i' k' z => by
  have n : ¬ (r' = r ∧ i' = mC b r) := fun y => z (by rw [y.1]; exact hr)
  rw [mI_newC, mL_newC, mR_newC, if_neg n, if_neg n, if_neg n]
  exact h r' i' k' z
theorem Kr.new {lo hi : Nat} {a b : Mem} (h : Kr lo hi a b) (r : Nat) (hr : lo ≤ r ∧ r < hi := by decide) : Kr lo hi a (newC b r) := newC_old h r hr
theorem Kr.R {lo hi r i : Nat} {a b : Mem} (h : Kr lo hi a b) (f : Nat → Nat) (hr : lo ≤ r ∧ r < hi := by decide) : Kr lo hi a (rowR b r i f) := fun r' i' k' z => by
  refine ⟨(h r' i' k' z).1, (h r' i' k' z).2.1, ?_⟩
  rw [mR_rowR, if_neg (fun y => z (by rw [y.1]; exact hr))]
  exact (h r' i' k' z).2.2
theorem Kr.I {lo hi r i : Nat} {a b : Mem} (h : Kr lo hi a b) (f : Nat → Int32) (hr : lo ≤ r ∧ r < hi := by decide) : Kr lo hi a (rowI b r i f) := fun r' i' k' z => by
  refine ⟨?_, (h r' i' k' z).2.1, (h r' i' k' z).2.2⟩
  rw [mI_rowI, if_neg (fun y => z (by rw [y.1]; exact hr))]
  exact (h r' i' k' z).1
def bx_154 : Nat → List Ins := fun t => match t with
  | 0 => [(.aload_n 0, 0, 0, 0, 0), (.invokespecial 7, 0, 4, 0, 0), (.aload_n 0, 0, 0, 0, 0), (.sipush 2000, 0, 0, 0, 0), (.newarray .byte, 56, 0, 0, 0), (.putfield 13, 9, 1, 2, 0)]
  | 13 => [(.aload_n 0, 0, 0, 0, 0), (.sipush 2000, 0, 0, 0, 0), (.newarray .byte, 57, 0, 0, 0), (.putfield 17, 9, 3, 2, 0)]
  | 22 => [(.aload_n 0, 0, 0, 0, 0), (.sipush 403, 0, 0, 0, 0), (.newarray .int, 58, 0, 0, 0), (.putfield 20, 9, 5, 2, 0)]
  | 31 => [(.aload_n 0, 0, 0, 0, 0), (.sipush 403, 0, 0, 0, 0), (.newarray .int, 59, 0, 0, 0), (.putfield 24, 9, 6, 2, 0)]
  | 40 => [(.aload_n 0, 0, 0, 0, 0), (.sipush 403, 0, 0, 0, 0), (.newarray .int, 60, 0, 0, 0), (.putfield 27, 9, 7, 2, 0)]
  | 49 => [(.aload_n 0, 0, 0, 0, 0), (.sipush 403, 0, 0, 0, 0), (.newarray .long, 61, 0, 0, 0), (.putfield 30, 9, 8, 2, 0)]
  | 58 => [(.aload_n 0, 0, 0, 0, 0), (.bipush 23, 0, 0, 0, 0), (.newarray .long, 62, 0, 0, 0), (.putfield 34, 9, 9, 2, 0)]
  | 66 => [(.aload_n 0, 0, 0, 0, 0), (.iconst (-1), 0, 0, 0, 0), (.putfield 37, 9, 17, 0, 0)]
  | 71 => [(.aload_n 0, 0, 0, 0, 0), (.bipush 10, 0, 0, 0, 0), (.newarray .long, 63, 0, 0, 0), (.putfield 40, 9, 21, 2, 0)]
  | 79 => [(.aload_n 0, 0, 0, 0, 0), (.bipush 10, 0, 0, 0, 0), (.newarray .int, 64, 0, 0, 0), (.putfield 43, 9, 22, 2, 0)]
  | 87 => [(.aload_n 0, 0, 0, 0, 0), (.iconst 2, 0, 0, 0, 0), (.newarray .int, 65, 0, 0, 0), (.putfield 46, 9, 23, 2, 0)]
  | 94 => [(.aload_n 0, 0, 0, 0, 0), (.iconst 2, 0, 0, 0, 0), (.newarray .int, 66, 0, 0, 0), (.putfield 49, 9, 24, 2, 0)]
  | 101 => [(.aload_n 0, 0, 0, 0, 0), (.bipush 12, 0, 0, 0, 0), (.newarray .int, 67, 0, 0, 0), (.putfield 52, 9, 25, 2, 0)]
  | 109 => [(.aload_n 0, 0, 0, 0, 0), (.bipush 12, 0, 0, 0, 0), (.newarray .int, 68, 0, 0, 0), (.putfield 55, 9, 26, 2, 0)]
  | 117 => [(.aload_n 0, 0, 0, 0, 0), (.bipush 12, 0, 0, 0, 0), (.newarray .int, 69, 0, 0, 0), (.putfield 58, 9, 27, 2, 0)]
  | 125 => [(.aload_n 0, 0, 0, 0, 0), (.iconst 2, 0, 0, 0, 0), (.newarray .int, 70, 0, 0, 0), (.putfield 61, 9, 28, 2, 0)]
  | 132 => [(.aload_n 0, 0, 0, 0, 0), (.bipush 24, 0, 0, 0, 0), (.newarray .int, 71, 0, 0, 0), (.putfield 64, 9, 29, 2, 0)]
  | 140 => [(.aload_n 0, 0, 0, 0, 0), (.bipush 24, 0, 0, 0, 0), (.newarray .int, 72, 0, 0, 0), (.putfield 67, 9, 30, 2, 0)]
  | 148 => [(.aload_n 0, 0, 0, 0, 0), (.bipush 24, 0, 0, 0, 0), (.newarray .int, 73, 0, 0, 0), (.putfield 70, 9, 31, 2, 0)]
  | 156 => [(.aload_n 0, 0, 0, 0, 0), (.iconst 2, 0, 0, 0, 0), (.newarray .int, 74, 0, 0, 0), (.putfield 73, 9, 32, 2, 0)]
  | 163 => [(.aload_n 0, 0, 0, 0, 0), (.iconst 2, 0, 0, 0, 0), (.newarray .int, 75, 0, 0, 0), (.putfield 76, 9, 33, 2, 0)]
  | 170 => [(.aload_n 0, 0, 0, 0, 0), (.bipush 8, 0, 0, 0, 0), (.newarray .int, 76, 0, 0, 0), (.putfield 79, 9, 34, 2, 0)]
  | 178 => [(.aload_n 0, 0, 0, 0, 0), (.bipush 8, 0, 0, 0, 0), (.newarray .int, 77, 0, 0, 0), (.putfield 82, 9, 35, 2, 0)]
  | 186 => [(.aload_n 0, 0, 0, 0, 0), (.sipush 260, 0, 0, 0, 0), (.newarray .boolean, 78, 0, 0, 0), (.putfield 85, 9, 37, 2, 0)]
  | 195 => [(.aload_n 0, 0, 0, 0, 0), (.sipush 260, 0, 0, 0, 0), (.newarray .int, 79, 0, 0, 0), (.putfield 89, 9, 38, 2, 0)]
  | 204 => [(.aload_n 0, 0, 0, 0, 0), (.sipush 260, 0, 0, 0, 0), (.newarray .int, 80, 0, 0, 0), (.putfield 92, 9, 39, 2, 0)]
  | 213 => [(.aload_n 0, 0, 0, 0, 0), (.sipush 260, 0, 0, 0, 0), (.newarray .int, 81, 0, 0, 0), (.putfield 95, 9, 40, 2, 0)]
  | 222 => [(.aload_n 0, 0, 0, 0, 0), (.sipush 260, 0, 0, 0, 0), (.newarray .int, 82, 0, 0, 0), (.putfield 98, 9, 41, 2, 0)]
  | 231 => [(.aload_n 0, 0, 0, 0, 0), (.sipush 840, 0, 0, 0, 0), (.newarray .int, 83, 0, 0, 0), (.putfield 101, 9, 43, 2, 0)]
  | 240 => [(.aload_n 0, 0, 0, 0, 0), (.sipush 840, 0, 0, 0, 0), (.newarray .int, 84, 0, 0, 0), (.putfield 104, 9, 44, 2, 0)]
  | 249 => [(.aload_n 0, 0, 0, 0, 0), (.bipush 64, 0, 0, 0, 0), (.newarray .int, 85, 0, 0, 0), (.putfield 107, 9, 45, 2, 0)]
  | 257 => [(.aload_n 0, 0, 0, 0, 0), (.bipush 9, 0, 0, 0, 0), (.newarray .int, 86, 0, 0, 0), (.putfield 110, 9, 47, 2, 0)]
  | 265 => [(.aload_n 0, 0, 0, 0, 0), (.sipush 400, 0, 0, 0, 0), (.newarray .int, 87, 0, 0, 0), (.putfield 113, 9, 48, 2, 0)]
  | 274 => [(.aload_n 0, 0, 0, 0, 0), (.bipush 33, 0, 0, 0, 0), (.newarray .int, 88, 0, 0, 0), (.putfield 116, 9, 50, 2, 0)]
  | 282 => [(.aload_n 0, 0, 0, 0, 0), (.bipush 33, 0, 0, 0, 0), (.newarray .int, 89, 0, 0, 0), (.putfield 119, 9, 51, 2, 0)]
  | 290 => [(.aload_n 0, 0, 0, 0, 0), (.iconst 4, 0, 0, 0, 0), (.newarray .int, 90, 0, 0, 0), (.putfield 122, 9, 54, 2, 0)]
  | 297 => [(.aload_n 0, 0, 0, 0, 0), (.bipush 16, 0, 0, 0, 0), (.newarray .int, 91, 0, 0, 0), (.putfield 125, 9, 55, 2, 0)]
  | 305 => [(.aload_n 0, 0, 0, 0, 0), (.iconst 4, 0, 0, 0, 0), (.newarray .long, 92, 0, 0, 0), (.putfield 128, 9, 58, 2, 0)]
  | 312 => [(.aload_n 0, 0, 0, 0, 0), (.bipush 20, 0, 0, 0, 0), (.newarray .long, 93, 0, 0, 0), (.putfield 131, 9, 59, 2, 0)]
  | 320 => [(.aload_n 0, 0, 0, 0, 0), (.bipush 6, 0, 0, 0, 0), (.newarray .int, 94, 0, 0, 0), (.putfield 134, 9, 60, 2, 0)]
  | 328 => [(.aload_n 0, 0, 0, 0, 0), (.sipush 1320, 0, 0, 0, 0), (.newarray .int, 95, 0, 0, 0), (.putfield 137, 9, 62, 2, 0)]
  | 337 => [(.aload_n 0, 0, 0, 0, 0), (.bipush 6, 0, 0, 0, 0), (.newarray .long, 96, 0, 0, 0), (.putfield 140, 9, 63, 2, 0)]
  | 345 => [(.aload_n 0, 0, 0, 0, 0), (.iconst 3, 0, 0, 0, 0), (.newarray .int, 97, 0, 0, 0), (.putfield 143, 9, 66, 2, 0)]
  | 352 => [(.aload_n 0, 0, 0, 0, 0), (.bipush 20, 0, 0, 0, 0), (.newarray .int, 98, 0, 0, 0), (.putfield 146, 9, 68, 2, 0)]
  | 360 => [(.aload_n 0, 0, 0, 0, 0), (.bipush 20, 0, 0, 0, 0), (.newarray .int, 99, 0, 0, 0), (.putfield 149, 9, 69, 2, 0)]
  | 368 => [(.aload_n 0, 0, 0, 0, 0), (.bipush 20, 0, 0, 0, 0), (.newarray .boolean, 100, 0, 0, 0), (.putfield 152, 9, 70, 2, 0)]
  | 376 => [(.aload_n 0, 0, 0, 0, 0), (.sipush 144, 0, 0, 0, 0), (.newarray .int, 101, 0, 0, 0), (.putfield 155, 9, 71, 2, 0)]
  | 385 => [(.aload_n 0, 0, 0, 0, 0), (.iconst 3, 0, 0, 0, 0), (.newarray .boolean, 102, 0, 0, 0), (.putfield 158, 9, 72, 2, 0)]
  | 392 => [(.aload_n 0, 0, 0, 0, 0), (.bipush 99, 0, 0, 0, 0), (.newarray .int, 103, 0, 0, 0), (.putfield 161, 9, 73, 2, 0)]
  | 400 => [(.aload_n 0, 0, 0, 0, 0), (.iconst 0, 0, 0, 0, 0), (.invokevirtual 164, 171, 109, 1, 3)]
  | 405 => [(.aload_n 0, 0, 0, 0, 0), (.iconst 1, 0, 0, 0, 0), (.invokevirtual 164, 171, 109, 1, 3)]
  | 410 => [(.aload_n 0, 0, 0, 0, 0), (.getfield 34, 9, 9, 2, 0), (.iconst 0, 0, 0, 0, 0), (.bipush 108, 0, 0, 0, 0), (.bipush 111, 0, 0, 0, 0), (.bipush 103, 0, 0, 0, 0), (.iconst 0, 0, 0, 0, 0), (.iconst 0, 0, 0, 0, 0), (.iconst 0, 0, 0, 0, 0), (.iconst 0, 0, 0, 0, 0), (.invokestatic 168, 162, 0, 7, 7), (.lastore, 0, 0, 0, 0)]
  | 429 => [(.aload_n 0, 0, 0, 0, 0), (.getfield 34, 9, 9, 2, 0), (.iconst 1, 0, 0, 0, 0), (.bipush 102, 0, 0, 0, 0), (.bipush 105, 0, 0, 0, 0), (.bipush 101, 0, 0, 0, 0), (.bipush 108, 0, 0, 0, 0), (.bipush 100, 0, 0, 0, 0), (.iconst 0, 0, 0, 0, 0), (.iconst 0, 0, 0, 0, 0), (.invokestatic 168, 162, 0, 7, 7), (.lastore, 0, 0, 0, 0)]
  | 450 => [(.aload_n 0, 0, 0, 0, 0), (.getfield 34, 9, 9, 2, 0), (.iconst 2, 0, 0, 0, 0), (.bipush 110, 0, 0, 0, 0), (.bipush 111, 0, 0, 0, 0), (.bipush 116, 0, 0, 0, 0), (.bipush 99, 0, 0, 0, 0), (.bipush 104, 0, 0, 0, 0), (.iconst 0, 0, 0, 0, 0), (.iconst 0, 0, 0, 0, 0), (.invokestatic 168, 162, 0, 7, 7), (.lastore, 0, 0, 0, 0)]
  | 471 => [(.aload_n 0, 0, 0, 0, 0), (.getfield 34, 9, 9, 2, 0), (.iconst 3, 0, 0, 0, 0), (.bipush 100, 0, 0, 0, 0), (.bipush 114, 0, 0, 0, 0), (.bipush 97, 0, 0, 0, 0), (.bipush 105, 0, 0, 0, 0), (.bipush 110, 0, 0, 0, 0), (.iconst 0, 0, 0, 0, 0), (.iconst 0, 0, 0, 0, 0), (.invokestatic 168, 162, 0, 7, 7), (.lastore, 0, 0, 0, 0)]
  | 492 => [(.aload_n 0, 0, 0, 0, 0), (.getfield 34, 9, 9, 2, 0), (.iconst 4, 0, 0, 0, 0), (.bipush 115, 0, 0, 0, 0), (.bipush 112, 0, 0, 0, 0), (.bipush 114, 0, 0, 0, 0), (.bipush 105, 0, 0, 0, 0), (.bipush 110, 0, 0, 0, 0), (.bipush 103, 0, 0, 0, 0), (.iconst 0, 0, 0, 0, 0), (.invokestatic 168, 162, 0, 7, 7), (.lastore, 0, 0, 0, 0)]
  | 514 => [(.aload_n 0, 0, 0, 0, 0), (.getfield 34, 9, 9, 2, 0), (.iconst 5, 0, 0, 0, 0), (.bipush 114, 0, 0, 0, 0), (.bipush 105, 0, 0, 0, 0), (.bipush 118, 0, 0, 0, 0), (.bipush 101, 0, 0, 0, 0), (.bipush 114, 0, 0, 0, 0), (.iconst 0, 0, 0, 0, 0), (.iconst 0, 0, 0, 0, 0), (.invokestatic 168, 162, 0, 7, 7), (.lastore, 0, 0, 0, 0)]
  | 535 => [(.aload_n 0, 0, 0, 0, 0), (.getfield 34, 9, 9, 2, 0), (.bipush 6, 0, 0, 0, 0), (.bipush 110, 0, 0, 0, 0), (.bipush 101, 0, 0, 0, 0), (.bipush 101, 0, 0, 0, 0), (.bipush 100, 0, 0, 0, 0), (.bipush 115, 0, 0, 0, 0), (.iconst 0, 0, 0, 0, 0), (.iconst 0, 0, 0, 0, 0), (.invokestatic 168, 162, 0, 7, 7), (.lastore, 0, 0, 0, 0)]
  | 557 => [(.aload_n 0, 0, 0, 0, 0), (.getfield 34, 9, 9, 2, 0), (.bipush 7, 0, 0, 0, 0), (.bipush 119, 0, 0, 0, 0), (.bipush 111, 0, 0, 0, 0), (.bipush 114, 0, 0, 0, 0), (.bipush 116, 0, 0, 0, 0), (.bipush 104, 0, 0, 0, 0), (.iconst 0, 0, 0, 0, 0), (.iconst 0, 0, 0, 0, 0), (.invokestatic 168, 162, 0, 7, 7), (.lastore, 0, 0, 0, 0)]
  | 579 => [(.aload_n 0, 0, 0, 0, 0), (.getfield 34, 9, 9, 2, 0), (.bipush 8, 0, 0, 0, 0), (.bipush 99, 0, 0, 0, 0), (.bipush 111, 0, 0, 0, 0), (.bipush 115, 0, 0, 0, 0), (.bipush 116, 0, 0, 0, 0), (.bipush 115, 0, 0, 0, 0), (.iconst 0, 0, 0, 0, 0), (.iconst 0, 0, 0, 0, 0), (.invokestatic 168, 162, 0, 7, 7), (.lastore, 0, 0, 0, 0)]
  | 601 => [(.aload_n 0, 0, 0, 0, 0), (.getfield 34, 9, 9, 2, 0), (.bipush 9, 0, 0, 0, 0), (.bipush 115, 0, 0, 0, 0), (.bipush 105, 0, 0, 0, 0), (.bipush 108, 0, 0, 0, 0), (.bipush 116, 0, 0, 0, 0), (.bipush 115, 0, 0, 0, 0), (.iconst 0, 0, 0, 0, 0), (.iconst 0, 0, 0, 0, 0), (.invokestatic 168, 162, 0, 7, 7), (.lastore, 0, 0, 0, 0)]
  | 623 => [(.aload_n 0, 0, 0, 0, 0), (.getfield 34, 9, 9, 2, 0), (.bipush 10, 0, 0, 0, 0), (.bipush 115, 0, 0, 0, 0), (.bipush 101, 0, 0, 0, 0), (.bipush 101, 0, 0, 0, 0), (.bipush 100, 0, 0, 0, 0), (.iconst 0, 0, 0, 0, 0), (.iconst 0, 0, 0, 0, 0), (.iconst 0, 0, 0, 0, 0), (.invokestatic 168, 162, 0, 7, 7), (.lastore, 0, 0, 0, 0)]
  | 644 => [(.aload_n 0, 0, 0, 0, 0), (.getfield 34, 9, 9, 2, 0), (.bipush 11, 0, 0, 0, 0), (.bipush 105, 0, 0, 0, 0), (.bipush 102, 0, 0, 0, 0), (.iconst 0, 0, 0, 0, 0), (.iconst 0, 0, 0, 0, 0), (.iconst 0, 0, 0, 0, 0), (.iconst 0, 0, 0, 0, 0), (.iconst 0, 0, 0, 0, 0), (.invokestatic 168, 162, 0, 7, 7), (.lastore, 0, 0, 0, 0)]
  | 663 => [(.aload_n 0, 0, 0, 0, 0), (.getfield 34, 9, 9, 2, 0), (.bipush 12, 0, 0, 0, 0), (.bipush 116, 0, 0, 0, 0), (.bipush 104, 0, 0, 0, 0), (.bipush 101, 0, 0, 0, 0), (.bipush 110, 0, 0, 0, 0), (.iconst 0, 0, 0, 0, 0), (.iconst 0, 0, 0, 0, 0), (.iconst 0, 0, 0, 0, 0), (.invokestatic 168, 162, 0, 7, 7), (.lastore, 0, 0, 0, 0)]
  | 684 => [(.aload_n 0, 0, 0, 0, 0), (.getfield 34, 9, 9, 2, 0), (.bipush 13, 0, 0, 0, 0), (.bipush 101, 0, 0, 0, 0), (.bipush 108, 0, 0, 0, 0), (.bipush 115, 0, 0, 0, 0), (.bipush 101, 0, 0, 0, 0), (.iconst 0, 0, 0, 0, 0), (.iconst 0, 0, 0, 0, 0), (.iconst 0, 0, 0, 0, 0), (.invokestatic 168, 162, 0, 7, 7), (.lastore, 0, 0, 0, 0)]
  | 705 => [(.aload_n 0, 0, 0, 0, 0), (.getfield 34, 9, 9, 2, 0), (.bipush 14, 0, 0, 0, 0), (.bipush 102, 0, 0, 0, 0), (.bipush 108, 0, 0, 0, 0), (.bipush 111, 0, 0, 0, 0), (.bipush 119, 0, 0, 0, 0), (.iconst 0, 0, 0, 0, 0), (.iconst 0, 0, 0, 0, 0), (.iconst 0, 0, 0, 0, 0), (.invokestatic 168, 162, 0, 7, 7), (.lastore, 0, 0, 0, 0)]
  | 726 => [(.aload_n 0, 0, 0, 0, 0), (.getfield 34, 9, 9, 2, 0), (.bipush 15, 0, 0, 0, 0), (.bipush 97, 0, 0, 0, 0), (.bipush 114, 0, 0, 0, 0), (.bipush 101, 0, 0, 0, 0), (.bipush 97, 0, 0, 0, 0), (.iconst 0, 0, 0, 0, 0), (.iconst 0, 0, 0, 0, 0), (.iconst 0, 0, 0, 0, 0), (.invokestatic 168, 162, 0, 7, 7), (.lastore, 0, 0, 0, 0)]
  | 747 => [(.aload_n 0, 0, 0, 0, 0), (.getfield 34, 9, 9, 2, 0), (.bipush 16, 0, 0, 0, 0), (.bipush 119, 0, 0, 0, 0), (.bipush 105, 0, 0, 0, 0), (.bipush 100, 0, 0, 0, 0), (.bipush 101, 0, 0, 0, 0), (.iconst 0, 0, 0, 0, 0), (.iconst 0, 0, 0, 0, 0), (.iconst 0, 0, 0, 0, 0), (.invokestatic 168, 162, 0, 7, 7), (.lastore, 0, 0, 0, 0)]
  | 768 => [(.aload_n 0, 0, 0, 0, 0), (.getfield 34, 9, 9, 2, 0), (.bipush 17, 0, 0, 0, 0), (.bipush 103, 0, 0, 0, 0), (.bipush 114, 0, 0, 0, 0), (.bipush 111, 0, 0, 0, 0), (.bipush 119, 0, 0, 0, 0), (.bipush 110, 0, 0, 0, 0), (.iconst 0, 0, 0, 0, 0), (.iconst 0, 0, 0, 0, 0), (.invokestatic 168, 162, 0, 7, 7), (.lastore, 0, 0, 0, 0)]
  | 790 => [(.aload_n 0, 0, 0, 0, 0), (.getfield 34, 9, 9, 2, 0), (.bipush 18, 0, 0, 0, 0), (.bipush 100, 0, 0, 0, 0), (.bipush 97, 0, 0, 0, 0), (.bipush 121, 0, 0, 0, 0), (.iconst 0, 0, 0, 0, 0), (.iconst 0, 0, 0, 0, 0), (.iconst 0, 0, 0, 0, 0), (.iconst 0, 0, 0, 0, 0), (.invokestatic 168, 162, 0, 7, 7), (.lastore, 0, 0, 0, 0)]
  | 810 => [(.aload_n 0, 0, 0, 0, 0), (.getfield 34, 9, 9, 2, 0), (.bipush 19, 0, 0, 0, 0), (.bipush 119, 0, 0, 0, 0), (.bipush 104, 0, 0, 0, 0), (.bipush 105, 0, 0, 0, 0), (.bipush 99, 0, 0, 0, 0), (.bipush 104, 0, 0, 0, 0), (.iconst 0, 0, 0, 0, 0), (.iconst 0, 0, 0, 0, 0), (.invokestatic 168, 162, 0, 7, 7), (.lastore, 0, 0, 0, 0)]
  | 832 => [(.aload_n 0, 0, 0, 0, 0), (.getfield 34, 9, 9, 2, 0), (.bipush 20, 0, 0, 0, 0), (.bipush 115, 0, 0, 0, 0), (.bipush 116, 0, 0, 0, 0), (.bipush 111, 0, 0, 0, 0), (.bipush 114, 0, 0, 0, 0), (.bipush 101, 0, 0, 0, 0), (.iconst 0, 0, 0, 0, 0), (.iconst 0, 0, 0, 0, 0), (.invokestatic 168, 162, 0, 7, 7), (.lastore, 0, 0, 0, 0)]
  | 854 => [(.aload_n 0, 0, 0, 0, 0), (.getfield 34, 9, 9, 2, 0), (.bipush 21, 0, 0, 0, 0), (.bipush 108, 0, 0, 0, 0), (.bipush 111, 0, 0, 0, 0), (.bipush 103, 0, 0, 0, 0), (.bipush 115, 0, 0, 0, 0), (.iconst 0, 0, 0, 0, 0), (.iconst 0, 0, 0, 0, 0), (.iconst 0, 0, 0, 0, 0), (.invokestatic 168, 162, 0, 7, 7), (.lastore, 0, 0, 0, 0)]
  | 875 => [(.aload_n 0, 0, 0, 0, 0), (.getfield 34, 9, 9, 2, 0), (.bipush 22, 0, 0, 0, 0), (.bipush 102, 0, 0, 0, 0), (.bipush 105, 0, 0, 0, 0), (.bipush 101, 0, 0, 0, 0), (.bipush 108, 0, 0, 0, 0), (.bipush 100, 0, 0, 0, 0), (.bipush 115, 0, 0, 0, 0), (.iconst 0, 0, 0, 0, 0), (.invokestatic 168, 162, 0, 7, 7), (.lastore, 0, 0, 0, 0)]
  | 898 => [(.aload_n 0, 0, 0, 0, 0), (.invokevirtual 172, 201, 109, 0, 2)]
  | 902 => [(.aload_n 0, 0, 0, 0, 0), (.invokevirtual 175, 202, 109, 0, 2)]
  | 906 => [(.return_, 0, 0, 0, 0)]
  | _ => []
set_option maxRecDepth 20000 in
theorem ckx_154 : ∀ t, chkL 154 t (bx_154 t) = true := by
  intro t
  unfold bx_154
  split <;> first | decide +kernel | rfl
def cux_154 : Nat → Option (List Nat) := fun t => match t with | 13 => some [0] | 22 => some [0] | 31 => some [0] | 40 => some [0] | 49 => some [0] | 58 => some [0] | 66 => some [0] | 71 => some [0] | 79 => some [0] | 87 => some [0] | 94 => some [0] | 101 => some [0] | 109 => some [0] | 117 => some [0] | 125 => some [0] | 132 => some [0] | 140 => some [0] | 148 => some [0] | 156 => some [0] | 163 => some [0] | 170 => some [0] | 178 => some [0] | 186 => some [0] | 195 => some [0] | 204 => some [0] | 213 => some [0] | 222 => some [0] | 231 => some [0] | 240 => some [0] | 249 => some [0] | 257 => some [0] | 265 => some [0] | 274 => some [0] | 282 => some [0] | 290 => some [0] | 297 => some [0] | 305 => some [0] | 312 => some [0] | 320 => some [0] | 328 => some [0] | 337 => some [0] | 345 => some [0] | 352 => some [0] | 360 => some [0] | 368 => some [0] | 376 => some [0] | 385 => some [0] | 392 => some [0] | 400 => some [0] | 405 => some [0] | 410 => some [0] | 429 => some [0] | 450 => some [0] | 471 => some [0] | 492 => some [0] | 514 => some [0] | 535 => some [0] | 557 => some [0] | 579 => some [0] | 601 => some [0] | 623 => some [0] | 644 => some [0] | 663 => some [0] | 684 => some [0] | 705 => some [0] | 726 => some [0] | 747 => some [0] | 768 => some [0] | 790 => some [0] | 810 => some [0] | 832 => some [0] | 854 => some [0] | 875 => some [0] | 898 => some [0] | 902 => some [0] | 906 => some [] | _ => none
theorem kb_154_0 : okP (ord 55 0 + 1) 56 (0) 55 (0) 1 = true := by decide +kernel
theorem kb_154_1 : okP (ord 55 0 + 2) 57 (0) 55 (0) 3 = true := by decide +kernel
theorem kb_154_2 : okP (ord 55 0 + 3) 58 (0) 55 (0) 5 = true := by decide +kernel
theorem kb_154_3 : okP (ord 55 0 + 4) 59 (0) 55 (0) 6 = true := by decide +kernel
theorem kb_154_4 : okP (ord 55 0 + 5) 60 (0) 55 (0) 7 = true := by decide +kernel
theorem kb_154_5 : okP (ord 55 0 + 6) 61 (0) 55 (0) 8 = true := by decide +kernel
theorem kb_154_6 : okP (ord 55 0 + 7) 62 (0) 55 (0) 9 = true := by decide +kernel
theorem kb_154_7 : okP (ord 55 0 + 8) 63 (0) 55 (0) 21 = true := by decide +kernel
theorem kb_154_8 : okP (ord 55 0 + 9) 64 (0) 55 (0) 22 = true := by decide +kernel
theorem kb_154_9 : okP (ord 55 0 + 10) 65 (0) 55 (0) 23 = true := by decide +kernel
theorem kb_154_10 : okP (ord 55 0 + 11) 66 (0) 55 (0) 24 = true := by decide +kernel
theorem kb_154_11 : okP (ord 55 0 + 12) 67 (0) 55 (0) 25 = true := by decide +kernel
theorem kb_154_12 : okP (ord 55 0 + 13) 68 (0) 55 (0) 26 = true := by decide +kernel
theorem kb_154_13 : okP (ord 55 0 + 14) 69 (0) 55 (0) 27 = true := by decide +kernel
theorem kb_154_14 : okP (ord 55 0 + 15) 70 (0) 55 (0) 28 = true := by decide +kernel
theorem kb_154_15 : okP (ord 55 0 + 16) 71 (0) 55 (0) 29 = true := by decide +kernel
theorem kb_154_16 : okP (ord 55 0 + 17) 72 (0) 55 (0) 30 = true := by decide +kernel
theorem kb_154_17 : okP (ord 55 0 + 18) 73 (0) 55 (0) 31 = true := by decide +kernel
theorem kb_154_18 : okP (ord 55 0 + 19) 74 (0) 55 (0) 32 = true := by decide +kernel
theorem kb_154_19 : okP (ord 55 0 + 20) 75 (0) 55 (0) 33 = true := by decide +kernel
theorem kb_154_20 : okP (ord 55 0 + 21) 76 (0) 55 (0) 34 = true := by decide +kernel
theorem kb_154_21 : okP (ord 55 0 + 22) 77 (0) 55 (0) 35 = true := by decide +kernel
theorem kb_154_22 : okP (ord 55 0 + 23) 78 (0) 55 (0) 37 = true := by decide +kernel
theorem kb_154_23 : okP (ord 55 0 + 24) 79 (0) 55 (0) 38 = true := by decide +kernel
theorem kb_154_24 : okP (ord 55 0 + 25) 80 (0) 55 (0) 39 = true := by decide +kernel
theorem kb_154_25 : okP (ord 55 0 + 26) 81 (0) 55 (0) 40 = true := by decide +kernel
theorem kb_154_26 : okP (ord 55 0 + 27) 82 (0) 55 (0) 41 = true := by decide +kernel
theorem kb_154_27 : okP (ord 55 0 + 28) 83 (0) 55 (0) 43 = true := by decide +kernel
theorem kb_154_28 : okP (ord 55 0 + 29) 84 (0) 55 (0) 44 = true := by decide +kernel
theorem kb_154_29 : okP (ord 55 0 + 30) 85 (0) 55 (0) 45 = true := by decide +kernel
theorem kb_154_30 : okP (ord 55 0 + 31) 86 (0) 55 (0) 47 = true := by decide +kernel
theorem kb_154_31 : okP (ord 55 0 + 32) 87 (0) 55 (0) 48 = true := by decide +kernel
theorem kb_154_32 : okP (ord 55 0 + 33) 88 (0) 55 (0) 50 = true := by decide +kernel
theorem kb_154_33 : okP (ord 55 0 + 34) 89 (0) 55 (0) 51 = true := by decide +kernel
theorem kb_154_34 : okP (ord 55 0 + 35) 90 (0) 55 (0) 54 = true := by decide +kernel
theorem kb_154_35 : okP (ord 55 0 + 36) 91 (0) 55 (0) 55 = true := by decide +kernel
theorem kb_154_36 : okP (ord 55 0 + 37) 92 (0) 55 (0) 58 = true := by decide +kernel
theorem kb_154_37 : okP (ord 55 0 + 38) 93 (0) 55 (0) 59 = true := by decide +kernel
theorem kb_154_38 : okP (ord 55 0 + 39) 94 (0) 55 (0) 60 = true := by decide +kernel
theorem kb_154_39 : okP (ord 55 0 + 40) 95 (0) 55 (0) 62 = true := by decide +kernel
theorem kb_154_40 : okP (ord 55 0 + 41) 96 (0) 55 (0) 63 = true := by decide +kernel
theorem kb_154_41 : okP (ord 55 0 + 42) 97 (0) 55 (0) 66 = true := by decide +kernel
theorem kb_154_42 : okP (ord 55 0 + 43) 98 (0) 55 (0) 68 = true := by decide +kernel
theorem kb_154_43 : okP (ord 55 0 + 44) 99 (0) 55 (0) 69 = true := by decide +kernel
theorem kb_154_44 : okP (ord 55 0 + 45) 100 (0) 55 (0) 70 = true := by decide +kernel
theorem kb_154_45 : okP (ord 55 0 + 46) 101 (0) 55 (0) 71 = true := by decide +kernel
theorem kb_154_46 : okP (ord 55 0 + 47) 102 (0) 55 (0) 72 = true := by decide +kernel
theorem kb_154_47 : okP (ord 55 0 + 48) 103 (0) 55 (0) 73 = true := by decide +kernel
theorem kc_154 {N i : Nat} {μ : Mem} {Q : Option V → Mem → Prop} (hN : invT[N]? = some (55, i)) (hc : Cnt μ (N + 1)) (hr : RO 325 μ (N + 1) []) (xo_0 : ∀ q, q ≠ 17 → mI μ 55 0 q = 0) (hq : ∀ ν, Cnt ν 374 → RO 325 ν 374 [] → Kr 55 104 μ ν → (∀ q, q ≠ 17 → mI ν 55 0 q = 0) → mI ν 55 0 17 = (-1 : Int32) → (∀ q, mI ν 102 0 q = 0) → Wp 1 2 154 400 [(0, vr 55 0)] [] ν 48 10993 Q) : Wp 1 2 154 0 [(0, vr 55 i)] [] μ 0 0 Q := by
  obtain ⟨-, -, -, -, hi, ho⟩ := inv_at hN
  subst ho
  have hi0 : i = 0 := by have : i < 1 := hi; omega
  subst hi0
  obtain ⟨e0, p0⟩ := okP_of kb_154_0
  obtain ⟨e1, p1⟩ := okP_of kb_154_1
  obtain ⟨e2, p2⟩ := okP_of kb_154_2
  obtain ⟨e3, p3⟩ := okP_of kb_154_3
  obtain ⟨e4, p4⟩ := okP_of kb_154_4
  obtain ⟨e5, p5⟩ := okP_of kb_154_5
  obtain ⟨e6, p6⟩ := okP_of kb_154_6
  obtain ⟨e7, p7⟩ := okP_of kb_154_7
  obtain ⟨e8, p8⟩ := okP_of kb_154_8
  obtain ⟨e9, p9⟩ := okP_of kb_154_9
  obtain ⟨e10, p10⟩ := okP_of kb_154_10
  obtain ⟨e11, p11⟩ := okP_of kb_154_11
  obtain ⟨e12, p12⟩ := okP_of kb_154_12
  obtain ⟨e13, p13⟩ := okP_of kb_154_13
  obtain ⟨e14, p14⟩ := okP_of kb_154_14
  obtain ⟨e15, p15⟩ := okP_of kb_154_15
  obtain ⟨e16, p16⟩ := okP_of kb_154_16
  obtain ⟨e17, p17⟩ := okP_of kb_154_17
  obtain ⟨e18, p18⟩ := okP_of kb_154_18
  obtain ⟨e19, p19⟩ := okP_of kb_154_19
  obtain ⟨e20, p20⟩ := okP_of kb_154_20
  obtain ⟨e21, p21⟩ := okP_of kb_154_21
  obtain ⟨e22, p22⟩ := okP_of kb_154_22
  obtain ⟨e23, p23⟩ := okP_of kb_154_23
  obtain ⟨e24, p24⟩ := okP_of kb_154_24
  obtain ⟨e25, p25⟩ := okP_of kb_154_25
  obtain ⟨e26, p26⟩ := okP_of kb_154_26
  obtain ⟨e27, p27⟩ := okP_of kb_154_27
  obtain ⟨e28, p28⟩ := okP_of kb_154_28
  obtain ⟨e29, p29⟩ := okP_of kb_154_29
  obtain ⟨e30, p30⟩ := okP_of kb_154_30
  obtain ⟨e31, p31⟩ := okP_of kb_154_31
  obtain ⟨e32, p32⟩ := okP_of kb_154_32
  obtain ⟨e33, p33⟩ := okP_of kb_154_33
  obtain ⟨e34, p34⟩ := okP_of kb_154_34
  obtain ⟨e35, p35⟩ := okP_of kb_154_35
  obtain ⟨e36, p36⟩ := okP_of kb_154_36
  obtain ⟨e37, p37⟩ := okP_of kb_154_37
  obtain ⟨e38, p38⟩ := okP_of kb_154_38
  obtain ⟨e39, p39⟩ := okP_of kb_154_39
  obtain ⟨e40, p40⟩ := okP_of kb_154_40
  obtain ⟨e41, p41⟩ := okP_of kb_154_41
  obtain ⟨e42, p42⟩ := okP_of kb_154_42
  obtain ⟨e43, p43⟩ := okP_of kb_154_43
  obtain ⟨e44, p44⟩ := okP_of kb_154_44
  obtain ⟨e45, p45⟩ := okP_of kb_154_45
  obtain ⟨e46, p46⟩ := okP_of kb_154_46
  obtain ⟨e47, p47⟩ := okP_of kb_154_47
  have k0 := Kr.rf 55 104 μ
  have m0 := (hc.new e0).1
  have cc0 := (hc.new e0).2
  refine rn_ok ckx_154 (cut := cux_154) 1 _ _ _ _ _ _ (And.intro (by decide) (And.intro (by decide) (And.intro (by decide) (And.intro (by decide) (And.intro (by decide) (And.intro (hc.old hN (by omega)) (And.intro (Nat.le_of_ble_eq_true rfl) (And.intro (by decide) (And.intro (by decide) (And.intro (by decide) (And.intro (by decide) (And.intro (by decide) (And.intro (by decide) (And.intro (by decide) (And.intro (by decide) (And.intro (hc.due e0 (fun _ => (by first | exact Or.inl rfl | exact Or.inr (by decide)))) (And.intro (by decide) (And.intro (by decide) (And.intro (by decide) (And.intro (by decide) (And.intro rfl (And.intro (cc0.old hN (by omega)) (And.intro rfl (And.intro (Or.inr (by decide)) (And.intro (Nat.lt_of_le_of_lt (Nat.le_of_eq m0) (cc0.old e0 (by omega))) ?_)))))))))))))))))))))))))
  show Wp 1 2 154 13 [(0, vr 55 0)] [] (rowR (newC μ 56) 55 0 (up (mR (newC μ 56) 55 0) 1 (mC μ 56))) 1 2000 Q
  have c1 : Cnt (rowR (newC μ 56) 55 0 (up (mR (newC μ 56) 55 0) 1 (mC μ 56))) (ord 55 0 + 2) := cc0.R
  have r1 : RO 325 (rowR (newC μ 56) 55 0 (up (mR (newC μ 56) 55 0) 1 (mC μ 56))) (ord 55 0 + 2) [] := ((hr.new hc e0 p0)).put m0
  have k1 : Kr 55 104 μ (rowR (newC μ 56) 55 0 (up (mR (newC μ 56) 55 0) 1 (mC μ 56))) := ((k0.new 56)).R _
  have xo_1 : ∀ q, q ≠ 17 → mI (rowR (newC μ 56) 55 0 (up (mR (newC μ 56) 55 0) 1 (mC μ 56))) 55 0 q = 0 := by intro q hq1; rw [mI_rowR]; rw [mI_newC, if_neg (by omega)]; exact xo_0 q hq1
  generalize (rowR (newC μ 56) 55 0 (up (mR (newC μ 56) 55 0) 1 (mC μ 56))) = μ1 at *
  have m1 := (c1.new e1).1
  have cc1 := (c1.new e1).2
  refine rn_ok ckx_154 (cut := cux_154) 1 _ _ _ _ _ _ (And.intro (by decide) (And.intro (by decide) (And.intro (by decide) (And.intro (by decide) (And.intro (by decide) (And.intro (by decide) (And.intro (by decide) (And.intro (by decide) (And.intro (c1.due e1 (fun _ => (by first | exact Or.inl rfl | exact Or.inr (by decide)))) (And.intro (by decide) (And.intro (by decide) (And.intro (by decide) (And.intro (by decide) (And.intro rfl (And.intro (cc1.old hN (by omega)) (And.intro rfl (And.intro (Or.inr (by decide)) (And.intro (Nat.lt_of_le_of_lt (Nat.le_of_eq m1) (cc1.old e1 (by omega))) ?_))))))))))))))))))
  show Wp 1 2 154 22 [(0, vr 55 0)] [] (rowR (newC μ1 57) 55 0 (up (mR (newC μ1 57) 55 0) 3 (mC μ1 57))) 2 4000 Q
  have c2 : Cnt (rowR (newC μ1 57) 55 0 (up (mR (newC μ1 57) 55 0) 3 (mC μ1 57))) (ord 55 0 + 3) := cc1.R
  have r2 : RO 325 (rowR (newC μ1 57) 55 0 (up (mR (newC μ1 57) 55 0) 3 (mC μ1 57))) (ord 55 0 + 3) [] := ((r1.new c1 e1 p1)).put m1
  have k2 : Kr 55 104 μ (rowR (newC μ1 57) 55 0 (up (mR (newC μ1 57) 55 0) 3 (mC μ1 57))) := ((k1.new 57)).R _
  have xo_2 : ∀ q, q ≠ 17 → mI (rowR (newC μ1 57) 55 0 (up (mR (newC μ1 57) 55 0) 3 (mC μ1 57))) 55 0 q = 0 := by intro q hq1; rw [mI_rowR]; rw [mI_newC, if_neg (by omega)]; exact xo_1 q hq1
  generalize (rowR (newC μ1 57) 55 0 (up (mR (newC μ1 57) 55 0) 3 (mC μ1 57))) = μ2 at *
  have m2 := (c2.new e2).1
  have cc2 := (c2.new e2).2
  refine rn_ok ckx_154 (cut := cux_154) 1 _ _ _ _ _ _ (And.intro (by decide) (And.intro (by decide) (And.intro (by decide) (And.intro (by decide) (And.intro (by decide) (And.intro (by decide) (And.intro (by decide) (And.intro (by decide) (And.intro (c2.due e2 (fun _ => (by first | exact Or.inl rfl | exact Or.inr (by decide)))) (And.intro (by decide) (And.intro (by decide) (And.intro (by decide) (And.intro (by decide) (And.intro rfl (And.intro (cc2.old hN (by omega)) (And.intro rfl (And.intro (Or.inr (by decide)) (And.intro (Nat.lt_of_le_of_lt (Nat.le_of_eq m2) (cc2.old e2 (by omega))) ?_))))))))))))))))))
  show Wp 1 2 154 31 [(0, vr 55 0)] [] (rowR (newC μ2 58) 55 0 (up (mR (newC μ2 58) 55 0) 5 (mC μ2 58))) 3 4403 Q
  have c3 : Cnt (rowR (newC μ2 58) 55 0 (up (mR (newC μ2 58) 55 0) 5 (mC μ2 58))) (ord 55 0 + 4) := cc2.R
  have r3 : RO 325 (rowR (newC μ2 58) 55 0 (up (mR (newC μ2 58) 55 0) 5 (mC μ2 58))) (ord 55 0 + 4) [] := ((r2.new c2 e2 p2)).put m2
  have k3 : Kr 55 104 μ (rowR (newC μ2 58) 55 0 (up (mR (newC μ2 58) 55 0) 5 (mC μ2 58))) := ((k2.new 58)).R _
  have xo_3 : ∀ q, q ≠ 17 → mI (rowR (newC μ2 58) 55 0 (up (mR (newC μ2 58) 55 0) 5 (mC μ2 58))) 55 0 q = 0 := by intro q hq1; rw [mI_rowR]; rw [mI_newC, if_neg (by omega)]; exact xo_2 q hq1
  generalize (rowR (newC μ2 58) 55 0 (up (mR (newC μ2 58) 55 0) 5 (mC μ2 58))) = μ3 at *
  have m3 := (c3.new e3).1
  have cc3 := (c3.new e3).2
  refine rn_ok ckx_154 (cut := cux_154) 1 _ _ _ _ _ _ (And.intro (by decide) (And.intro (by decide) (And.intro (by decide) (And.intro (by decide) (And.intro (by decide) (And.intro (by decide) (And.intro (by decide) (And.intro (by decide) (And.intro (c3.due e3 (fun _ => (by first | exact Or.inl rfl | exact Or.inr (by decide)))) (And.intro (by decide) (And.intro (by decide) (And.intro (by decide) (And.intro (by decide) (And.intro rfl (And.intro (cc3.old hN (by omega)) (And.intro rfl (And.intro (Or.inr (by decide)) (And.intro (Nat.lt_of_le_of_lt (Nat.le_of_eq m3) (cc3.old e3 (by omega))) ?_))))))))))))))))))
  show Wp 1 2 154 40 [(0, vr 55 0)] [] (rowR (newC μ3 59) 55 0 (up (mR (newC μ3 59) 55 0) 6 (mC μ3 59))) 4 4806 Q
  have c4 : Cnt (rowR (newC μ3 59) 55 0 (up (mR (newC μ3 59) 55 0) 6 (mC μ3 59))) (ord 55 0 + 5) := cc3.R
  have r4 : RO 325 (rowR (newC μ3 59) 55 0 (up (mR (newC μ3 59) 55 0) 6 (mC μ3 59))) (ord 55 0 + 5) [] := ((r3.new c3 e3 p3)).put m3
  have k4 : Kr 55 104 μ (rowR (newC μ3 59) 55 0 (up (mR (newC μ3 59) 55 0) 6 (mC μ3 59))) := ((k3.new 59)).R _
  have xo_4 : ∀ q, q ≠ 17 → mI (rowR (newC μ3 59) 55 0 (up (mR (newC μ3 59) 55 0) 6 (mC μ3 59))) 55 0 q = 0 := by intro q hq1; rw [mI_rowR]; rw [mI_newC, if_neg (by omega)]; exact xo_3 q hq1
  generalize (rowR (newC μ3 59) 55 0 (up (mR (newC μ3 59) 55 0) 6 (mC μ3 59))) = μ4 at *
  have m4 := (c4.new e4).1
  have cc4 := (c4.new e4).2
  refine rn_ok ckx_154 (cut := cux_154) 1 _ _ _ _ _ _ (And.intro (by decide) (And.intro (by decide) (And.intro (by decide) (And.intro (by decide) (And.intro (by decide) (And.intro (by decide) (And.intro (by decide) (And.intro (by decide) (And.intro (c4.due e4 (fun _ => (by first | exact Or.inl rfl | exact Or.inr (by decide)))) (And.intro (by decide) (And.intro (by decide) (And.intro (by decide) (And.intro (by decide) (And.intro rfl (And.intro (cc4.old hN (by omega)) (And.intro rfl (And.intro (Or.inr (by decide)) (And.intro (Nat.lt_of_le_of_lt (Nat.le_of_eq m4) (cc4.old e4 (by omega))) ?_))))))))))))))))))
  show Wp 1 2 154 49 [(0, vr 55 0)] [] (rowR (newC μ4 60) 55 0 (up (mR (newC μ4 60) 55 0) 7 (mC μ4 60))) 5 5209 Q
  have c5 : Cnt (rowR (newC μ4 60) 55 0 (up (mR (newC μ4 60) 55 0) 7 (mC μ4 60))) (ord 55 0 + 6) := cc4.R
  have r5 : RO 325 (rowR (newC μ4 60) 55 0 (up (mR (newC μ4 60) 55 0) 7 (mC μ4 60))) (ord 55 0 + 6) [] := ((r4.new c4 e4 p4)).put m4
  have k5 : Kr 55 104 μ (rowR (newC μ4 60) 55 0 (up (mR (newC μ4 60) 55 0) 7 (mC μ4 60))) := ((k4.new 60)).R _
  have xo_5 : ∀ q, q ≠ 17 → mI (rowR (newC μ4 60) 55 0 (up (mR (newC μ4 60) 55 0) 7 (mC μ4 60))) 55 0 q = 0 := by intro q hq1; rw [mI_rowR]; rw [mI_newC, if_neg (by omega)]; exact xo_4 q hq1
  generalize (rowR (newC μ4 60) 55 0 (up (mR (newC μ4 60) 55 0) 7 (mC μ4 60))) = μ5 at *
  have m5 := (c5.new e5).1
  have cc5 := (c5.new e5).2
  refine rn_ok ckx_154 (cut := cux_154) 1 _ _ _ _ _ _ (And.intro (by decide) (And.intro (by decide) (And.intro (by decide) (And.intro (by decide) (And.intro (by decide) (And.intro (by decide) (And.intro (by decide) (And.intro (by decide) (And.intro (c5.due e5 (fun _ => (by first | exact Or.inl rfl | exact Or.inr (by decide)))) (And.intro (by decide) (And.intro (by decide) (And.intro (by decide) (And.intro (by decide) (And.intro rfl (And.intro (cc5.old hN (by omega)) (And.intro rfl (And.intro (Or.inr (by decide)) (And.intro (Nat.lt_of_le_of_lt (Nat.le_of_eq m5) (cc5.old e5 (by omega))) ?_))))))))))))))))))
  show Wp 1 2 154 58 [(0, vr 55 0)] [] (rowR (newC μ5 61) 55 0 (up (mR (newC μ5 61) 55 0) 8 (mC μ5 61))) 6 5612 Q
  have c6 : Cnt (rowR (newC μ5 61) 55 0 (up (mR (newC μ5 61) 55 0) 8 (mC μ5 61))) (ord 55 0 + 7) := cc5.R
  have r6 : RO 325 (rowR (newC μ5 61) 55 0 (up (mR (newC μ5 61) 55 0) 8 (mC μ5 61))) (ord 55 0 + 7) [] := ((r5.new c5 e5 p5)).put m5
  have k6 : Kr 55 104 μ (rowR (newC μ5 61) 55 0 (up (mR (newC μ5 61) 55 0) 8 (mC μ5 61))) := ((k5.new 61)).R _
  have xo_6 : ∀ q, q ≠ 17 → mI (rowR (newC μ5 61) 55 0 (up (mR (newC μ5 61) 55 0) 8 (mC μ5 61))) 55 0 q = 0 := by intro q hq1; rw [mI_rowR]; rw [mI_newC, if_neg (by omega)]; exact xo_5 q hq1
  generalize (rowR (newC μ5 61) 55 0 (up (mR (newC μ5 61) 55 0) 8 (mC μ5 61))) = μ6 at *
  have m6 := (c6.new e6).1
  have cc6 := (c6.new e6).2
  refine rn_ok ckx_154 (cut := cux_154) 1 _ _ _ _ _ _ (And.intro (by decide) (And.intro (by decide) (And.intro (by decide) (And.intro (by decide) (And.intro (by decide) (And.intro (by decide) (And.intro (by decide) (And.intro (by decide) (And.intro (c6.due e6 (fun _ => (by first | exact Or.inl rfl | exact Or.inr (by decide)))) (And.intro (by decide) (And.intro (by decide) (And.intro (by decide) (And.intro (by decide) (And.intro rfl (And.intro (cc6.old hN (by omega)) (And.intro rfl (And.intro (Or.inr (by decide)) (And.intro (Nat.lt_of_le_of_lt (Nat.le_of_eq m6) (cc6.old e6 (by omega))) ?_))))))))))))))))))
  show Wp 1 2 154 66 [(0, vr 55 0)] [] (rowR (newC μ6 62) 55 0 (up (mR (newC μ6 62) 55 0) 9 (mC μ6 62))) 7 5635 Q
  have c7 : Cnt (rowR (newC μ6 62) 55 0 (up (mR (newC μ6 62) 55 0) 9 (mC μ6 62))) (ord 55 0 + 8) := cc6.R
  have r7 : RO 325 (rowR (newC μ6 62) 55 0 (up (mR (newC μ6 62) 55 0) 9 (mC μ6 62))) (ord 55 0 + 8) [] := ((r6.new c6 e6 p6)).put m6
  have k7 : Kr 55 104 μ (rowR (newC μ6 62) 55 0 (up (mR (newC μ6 62) 55 0) 9 (mC μ6 62))) := ((k6.new 62)).R _
  have xo_7 : ∀ q, q ≠ 17 → mI (rowR (newC μ6 62) 55 0 (up (mR (newC μ6 62) 55 0) 9 (mC μ6 62))) 55 0 q = 0 := by intro q hq1; rw [mI_rowR]; rw [mI_newC, if_neg (by omega)]; exact xo_6 q hq1
  generalize (rowR (newC μ6 62) 55 0 (up (mR (newC μ6 62) 55 0) 9 (mC μ6 62))) = μ7 at *
  refine rn_ok ckx_154 (cut := cux_154) 1 _ _ _ _ _ _ (And.intro (by decide) (And.intro (by decide) (And.intro (by decide) (And.intro (by decide) (And.intro (by decide) (And.intro (by decide) (And.intro rfl (And.intro (c7.old hN (by omega)) ?_))))))))
  show Wp 1 2 154 71 [(0, vr 55 0)] [] (rowI μ7 55 0 (up (mI μ7 55 0) 17 (Int32.ofInt (-1)))) 7 5635 Q
  have c8 : Cnt (rowI μ7 55 0 (up (mI μ7 55 0) 17 (Int32.ofInt (-1)))) (ord 55 0 + 8) := c7.I
  have r8 : RO 325 (rowI μ7 55 0 (up (mI μ7 55 0) 17 (Int32.ofInt (-1)))) (ord 55 0 + 8) [] := r7.I
  have k8 : Kr 55 104 μ (rowI μ7 55 0 (up (mI μ7 55 0) 17 (Int32.ofInt (-1)))) := k7.I _
  have xo_8 : ∀ q, q ≠ 17 → mI (rowI μ7 55 0 (up (mI μ7 55 0) 17 (Int32.ofInt (-1)))) 55 0 q = 0 := by intro q hq1; rw [mI_rowI, if_pos ⟨rfl, rfl⟩, up_n _ _ (by omega)]; exact xo_7 q hq1
  have xp_8 : mI (rowI μ7 55 0 (up (mI μ7 55 0) 17 (Int32.ofInt (-1)))) 55 0 17 = (-1 : Int32) := by rw [mI_rowI, if_pos ⟨rfl, rfl⟩]; exact up_s _ _ _
  generalize (rowI μ7 55 0 (up (mI μ7 55 0) 17 (Int32.ofInt (-1)))) = μ8 at *
  have m8 := (c8.new e7).1
  have cc8 := (c8.new e7).2
  refine rn_ok ckx_154 (cut := cux_154) 1 _ _ _ _ _ _ (And.intro (by decide) (And.intro (by decide) (And.intro (by decide) (And.intro (by decide) (And.intro (by decide) (And.intro (by decide) (And.intro (by decide) (And.intro (by decide) (And.intro (c8.due e7 (fun _ => (by first | exact Or.inl rfl | exact Or.inr (by decide)))) (And.intro (by decide) (And.intro (by decide) (And.intro (by decide) (And.intro (by decide) (And.intro rfl (And.intro (cc8.old hN (by omega)) (And.intro rfl (And.intro (Or.inr (by decide)) (And.intro (Nat.lt_of_le_of_lt (Nat.le_of_eq m8) (cc8.old e7 (by omega))) ?_))))))))))))))))))
  show Wp 1 2 154 79 [(0, vr 55 0)] [] (rowR (newC μ8 63) 55 0 (up (mR (newC μ8 63) 55 0) 21 (mC μ8 63))) 8 5645 Q
  have c9 : Cnt (rowR (newC μ8 63) 55 0 (up (mR (newC μ8 63) 55 0) 21 (mC μ8 63))) (ord 55 0 + 9) := cc8.R
  have r9 : RO 325 (rowR (newC μ8 63) 55 0 (up (mR (newC μ8 63) 55 0) 21 (mC μ8 63))) (ord 55 0 + 9) [] := ((r8.new c8 e7 p7)).put m8
  have k9 : Kr 55 104 μ (rowR (newC μ8 63) 55 0 (up (mR (newC μ8 63) 55 0) 21 (mC μ8 63))) := ((k8.new 63)).R _
  have xo_9 : ∀ q, q ≠ 17 → mI (rowR (newC μ8 63) 55 0 (up (mR (newC μ8 63) 55 0) 21 (mC μ8 63))) 55 0 q = 0 := by intro q hq1; rw [mI_rowR]; rw [mI_newC, if_neg (by omega)]; exact xo_8 q hq1
  have xp_9 : mI (rowR (newC μ8 63) 55 0 (up (mR (newC μ8 63) 55 0) 21 (mC μ8 63))) 55 0 17 = (-1 : Int32) := by rw [mI_rowR]; rw [mI_newC, if_neg (by omega)]; exact xp_8
  generalize (rowR (newC μ8 63) 55 0 (up (mR (newC μ8 63) 55 0) 21 (mC μ8 63))) = μ9 at *
  have m9 := (c9.new e8).1
  have cc9 := (c9.new e8).2
  refine rn_ok ckx_154 (cut := cux_154) 1 _ _ _ _ _ _ (And.intro (by decide) (And.intro (by decide) (And.intro (by decide) (And.intro (by decide) (And.intro (by decide) (And.intro (by decide) (And.intro (by decide) (And.intro (by decide) (And.intro (c9.due e8 (fun _ => (by first | exact Or.inl rfl | exact Or.inr (by decide)))) (And.intro (by decide) (And.intro (by decide) (And.intro (by decide) (And.intro (by decide) (And.intro rfl (And.intro (cc9.old hN (by omega)) (And.intro rfl (And.intro (Or.inr (by decide)) (And.intro (Nat.lt_of_le_of_lt (Nat.le_of_eq m9) (cc9.old e8 (by omega))) ?_))))))))))))))))))
  show Wp 1 2 154 87 [(0, vr 55 0)] [] (rowR (newC μ9 64) 55 0 (up (mR (newC μ9 64) 55 0) 22 (mC μ9 64))) 9 5655 Q
  have c10 : Cnt (rowR (newC μ9 64) 55 0 (up (mR (newC μ9 64) 55 0) 22 (mC μ9 64))) (ord 55 0 + 10) := cc9.R
  have r10 : RO 325 (rowR (newC μ9 64) 55 0 (up (mR (newC μ9 64) 55 0) 22 (mC μ9 64))) (ord 55 0 + 10) [] := ((r9.new c9 e8 p8)).put m9
  have k10 : Kr 55 104 μ (rowR (newC μ9 64) 55 0 (up (mR (newC μ9 64) 55 0) 22 (mC μ9 64))) := ((k9.new 64)).R _
  have xo_10 : ∀ q, q ≠ 17 → mI (rowR (newC μ9 64) 55 0 (up (mR (newC μ9 64) 55 0) 22 (mC μ9 64))) 55 0 q = 0 := by intro q hq1; rw [mI_rowR]; rw [mI_newC, if_neg (by omega)]; exact xo_9 q hq1
  have xp_10 : mI (rowR (newC μ9 64) 55 0 (up (mR (newC μ9 64) 55 0) 22 (mC μ9 64))) 55 0 17 = (-1 : Int32) := by rw [mI_rowR]; rw [mI_newC, if_neg (by omega)]; exact xp_9
  generalize (rowR (newC μ9 64) 55 0 (up (mR (newC μ9 64) 55 0) 22 (mC μ9 64))) = μ10 at *
  have m10 := (c10.new e9).1
  have cc10 := (c10.new e9).2
  refine rn_ok ckx_154 (cut := cux_154) 1 _ _ _ _ _ _ (And.intro (by decide) (And.intro (by decide) (And.intro (by decide) (And.intro (by decide) (And.intro (by decide) (And.intro (by decide) (And.intro (by decide) (And.intro (by decide) (And.intro (c10.due e9 (fun _ => (by first | exact Or.inl rfl | exact Or.inr (by decide)))) (And.intro (by decide) (And.intro (by decide) (And.intro (by decide) (And.intro (by decide) (And.intro rfl (And.intro (cc10.old hN (by omega)) (And.intro rfl (And.intro (Or.inr (by decide)) (And.intro (Nat.lt_of_le_of_lt (Nat.le_of_eq m10) (cc10.old e9 (by omega))) ?_))))))))))))))))))
  show Wp 1 2 154 94 [(0, vr 55 0)] [] (rowR (newC μ10 65) 55 0 (up (mR (newC μ10 65) 55 0) 23 (mC μ10 65))) 10 5657 Q
  have c11 : Cnt (rowR (newC μ10 65) 55 0 (up (mR (newC μ10 65) 55 0) 23 (mC μ10 65))) (ord 55 0 + 11) := cc10.R
  have r11 : RO 325 (rowR (newC μ10 65) 55 0 (up (mR (newC μ10 65) 55 0) 23 (mC μ10 65))) (ord 55 0 + 11) [] := ((r10.new c10 e9 p9)).put m10
  have k11 : Kr 55 104 μ (rowR (newC μ10 65) 55 0 (up (mR (newC μ10 65) 55 0) 23 (mC μ10 65))) := ((k10.new 65)).R _
  have xo_11 : ∀ q, q ≠ 17 → mI (rowR (newC μ10 65) 55 0 (up (mR (newC μ10 65) 55 0) 23 (mC μ10 65))) 55 0 q = 0 := by intro q hq1; rw [mI_rowR]; rw [mI_newC, if_neg (by omega)]; exact xo_10 q hq1
  have xp_11 : mI (rowR (newC μ10 65) 55 0 (up (mR (newC μ10 65) 55 0) 23 (mC μ10 65))) 55 0 17 = (-1 : Int32) := by rw [mI_rowR]; rw [mI_newC, if_neg (by omega)]; exact xp_10
  generalize (rowR (newC μ10 65) 55 0 (up (mR (newC μ10 65) 55 0) 23 (mC μ10 65))) = μ11 at *
  have m11 := (c11.new e10).1
  have cc11 := (c11.new e10).2
  refine rn_ok ckx_154 (cut := cux_154) 1 _ _ _ _ _ _ (And.intro (by decide) (And.intro (by decide) (And.intro (by decide) (And.intro (by decide) (And.intro (by decide) (And.intro (by decide) (And.intro (by decide) (And.intro (by decide) (And.intro (c11.due e10 (fun _ => (by first | exact Or.inl rfl | exact Or.inr (by decide)))) (And.intro (by decide) (And.intro (by decide) (And.intro (by decide) (And.intro (by decide) (And.intro rfl (And.intro (cc11.old hN (by omega)) (And.intro rfl (And.intro (Or.inr (by decide)) (And.intro (Nat.lt_of_le_of_lt (Nat.le_of_eq m11) (cc11.old e10 (by omega))) ?_))))))))))))))))))
  show Wp 1 2 154 101 [(0, vr 55 0)] [] (rowR (newC μ11 66) 55 0 (up (mR (newC μ11 66) 55 0) 24 (mC μ11 66))) 11 5659 Q
  have c12 : Cnt (rowR (newC μ11 66) 55 0 (up (mR (newC μ11 66) 55 0) 24 (mC μ11 66))) (ord 55 0 + 12) := cc11.R
  have r12 : RO 325 (rowR (newC μ11 66) 55 0 (up (mR (newC μ11 66) 55 0) 24 (mC μ11 66))) (ord 55 0 + 12) [] := ((r11.new c11 e10 p10)).put m11
  have k12 : Kr 55 104 μ (rowR (newC μ11 66) 55 0 (up (mR (newC μ11 66) 55 0) 24 (mC μ11 66))) := ((k11.new 66)).R _
  have xo_12 : ∀ q, q ≠ 17 → mI (rowR (newC μ11 66) 55 0 (up (mR (newC μ11 66) 55 0) 24 (mC μ11 66))) 55 0 q = 0 := by intro q hq1; rw [mI_rowR]; rw [mI_newC, if_neg (by omega)]; exact xo_11 q hq1
  have xp_12 : mI (rowR (newC μ11 66) 55 0 (up (mR (newC μ11 66) 55 0) 24 (mC μ11 66))) 55 0 17 = (-1 : Int32) := by rw [mI_rowR]; rw [mI_newC, if_neg (by omega)]; exact xp_11
  generalize (rowR (newC μ11 66) 55 0 (up (mR (newC μ11 66) 55 0) 24 (mC μ11 66))) = μ12 at *
  have m12 := (c12.new e11).1
  have cc12 := (c12.new e11).2
  refine rn_ok ckx_154 (cut := cux_154) 1 _ _ _ _ _ _ (And.intro (by decide) (And.intro (by decide) (And.intro (by decide) (And.intro (by decide) (And.intro (by decide) (And.intro (by decide) (And.intro (by decide) (And.intro (by decide) (And.intro (c12.due e11 (fun _ => (by first | exact Or.inl rfl | exact Or.inr (by decide)))) (And.intro (by decide) (And.intro (by decide) (And.intro (by decide) (And.intro (by decide) (And.intro rfl (And.intro (cc12.old hN (by omega)) (And.intro rfl (And.intro (Or.inr (by decide)) (And.intro (Nat.lt_of_le_of_lt (Nat.le_of_eq m12) (cc12.old e11 (by omega))) ?_))))))))))))))))))
  show Wp 1 2 154 109 [(0, vr 55 0)] [] (rowR (newC μ12 67) 55 0 (up (mR (newC μ12 67) 55 0) 25 (mC μ12 67))) 12 5671 Q
  have c13 : Cnt (rowR (newC μ12 67) 55 0 (up (mR (newC μ12 67) 55 0) 25 (mC μ12 67))) (ord 55 0 + 13) := cc12.R
  have r13 : RO 325 (rowR (newC μ12 67) 55 0 (up (mR (newC μ12 67) 55 0) 25 (mC μ12 67))) (ord 55 0 + 13) [] := ((r12.new c12 e11 p11)).put m12
  have k13 : Kr 55 104 μ (rowR (newC μ12 67) 55 0 (up (mR (newC μ12 67) 55 0) 25 (mC μ12 67))) := ((k12.new 67)).R _
  have xo_13 : ∀ q, q ≠ 17 → mI (rowR (newC μ12 67) 55 0 (up (mR (newC μ12 67) 55 0) 25 (mC μ12 67))) 55 0 q = 0 := by intro q hq1; rw [mI_rowR]; rw [mI_newC, if_neg (by omega)]; exact xo_12 q hq1
  have xp_13 : mI (rowR (newC μ12 67) 55 0 (up (mR (newC μ12 67) 55 0) 25 (mC μ12 67))) 55 0 17 = (-1 : Int32) := by rw [mI_rowR]; rw [mI_newC, if_neg (by omega)]; exact xp_12
  generalize (rowR (newC μ12 67) 55 0 (up (mR (newC μ12 67) 55 0) 25 (mC μ12 67))) = μ13 at *
  have m13 := (c13.new e12).1
  have cc13 := (c13.new e12).2
  refine rn_ok ckx_154 (cut := cux_154) 1 _ _ _ _ _ _ (And.intro (by decide) (And.intro (by decide) (And.intro (by decide) (And.intro (by decide) (And.intro (by decide) (And.intro (by decide) (And.intro (by decide) (And.intro (by decide) (And.intro (c13.due e12 (fun _ => (by first | exact Or.inl rfl | exact Or.inr (by decide)))) (And.intro (by decide) (And.intro (by decide) (And.intro (by decide) (And.intro (by decide) (And.intro rfl (And.intro (cc13.old hN (by omega)) (And.intro rfl (And.intro (Or.inr (by decide)) (And.intro (Nat.lt_of_le_of_lt (Nat.le_of_eq m13) (cc13.old e12 (by omega))) ?_))))))))))))))))))
  show Wp 1 2 154 117 [(0, vr 55 0)] [] (rowR (newC μ13 68) 55 0 (up (mR (newC μ13 68) 55 0) 26 (mC μ13 68))) 13 5683 Q
  have c14 : Cnt (rowR (newC μ13 68) 55 0 (up (mR (newC μ13 68) 55 0) 26 (mC μ13 68))) (ord 55 0 + 14) := cc13.R
  have r14 : RO 325 (rowR (newC μ13 68) 55 0 (up (mR (newC μ13 68) 55 0) 26 (mC μ13 68))) (ord 55 0 + 14) [] := ((r13.new c13 e12 p12)).put m13
  have k14 : Kr 55 104 μ (rowR (newC μ13 68) 55 0 (up (mR (newC μ13 68) 55 0) 26 (mC μ13 68))) := ((k13.new 68)).R _
  have xo_14 : ∀ q, q ≠ 17 → mI (rowR (newC μ13 68) 55 0 (up (mR (newC μ13 68) 55 0) 26 (mC μ13 68))) 55 0 q = 0 := by intro q hq1; rw [mI_rowR]; rw [mI_newC, if_neg (by omega)]; exact xo_13 q hq1
  have xp_14 : mI (rowR (newC μ13 68) 55 0 (up (mR (newC μ13 68) 55 0) 26 (mC μ13 68))) 55 0 17 = (-1 : Int32) := by rw [mI_rowR]; rw [mI_newC, if_neg (by omega)]; exact xp_13
  generalize (rowR (newC μ13 68) 55 0 (up (mR (newC μ13 68) 55 0) 26 (mC μ13 68))) = μ14 at *
  have m14 := (c14.new e13).1
  have cc14 := (c14.new e13).2
  refine rn_ok ckx_154 (cut := cux_154) 1 _ _ _ _ _ _ (And.intro (by decide) (And.intro (by decide) (And.intro (by decide) (And.intro (by decide) (And.intro (by decide) (And.intro (by decide) (And.intro (by decide) (And.intro (by decide) (And.intro (c14.due e13 (fun _ => (by first | exact Or.inl rfl | exact Or.inr (by decide)))) (And.intro (by decide) (And.intro (by decide) (And.intro (by decide) (And.intro (by decide) (And.intro rfl (And.intro (cc14.old hN (by omega)) (And.intro rfl (And.intro (Or.inr (by decide)) (And.intro (Nat.lt_of_le_of_lt (Nat.le_of_eq m14) (cc14.old e13 (by omega))) ?_))))))))))))))))))
  show Wp 1 2 154 125 [(0, vr 55 0)] [] (rowR (newC μ14 69) 55 0 (up (mR (newC μ14 69) 55 0) 27 (mC μ14 69))) 14 5695 Q
  have c15 : Cnt (rowR (newC μ14 69) 55 0 (up (mR (newC μ14 69) 55 0) 27 (mC μ14 69))) (ord 55 0 + 15) := cc14.R
  have r15 : RO 325 (rowR (newC μ14 69) 55 0 (up (mR (newC μ14 69) 55 0) 27 (mC μ14 69))) (ord 55 0 + 15) [] := ((r14.new c14 e13 p13)).put m14
  have k15 : Kr 55 104 μ (rowR (newC μ14 69) 55 0 (up (mR (newC μ14 69) 55 0) 27 (mC μ14 69))) := ((k14.new 69)).R _
  have xo_15 : ∀ q, q ≠ 17 → mI (rowR (newC μ14 69) 55 0 (up (mR (newC μ14 69) 55 0) 27 (mC μ14 69))) 55 0 q = 0 := by intro q hq1; rw [mI_rowR]; rw [mI_newC, if_neg (by omega)]; exact xo_14 q hq1
  have xp_15 : mI (rowR (newC μ14 69) 55 0 (up (mR (newC μ14 69) 55 0) 27 (mC μ14 69))) 55 0 17 = (-1 : Int32) := by rw [mI_rowR]; rw [mI_newC, if_neg (by omega)]; exact xp_14
  generalize (rowR (newC μ14 69) 55 0 (up (mR (newC μ14 69) 55 0) 27 (mC μ14 69))) = μ15 at *
  have m15 := (c15.new e14).1
  have cc15 := (c15.new e14).2
  refine rn_ok ckx_154 (cut := cux_154) 1 _ _ _ _ _ _ (And.intro (by decide) (And.intro (by decide) (And.intro (by decide) (And.intro (by decide) (And.intro (by decide) (And.intro (by decide) (And.intro (by decide) (And.intro (by decide) (And.intro (c15.due e14 (fun _ => (by first | exact Or.inl rfl | exact Or.inr (by decide)))) (And.intro (by decide) (And.intro (by decide) (And.intro (by decide) (And.intro (by decide) (And.intro rfl (And.intro (cc15.old hN (by omega)) (And.intro rfl (And.intro (Or.inr (by decide)) (And.intro (Nat.lt_of_le_of_lt (Nat.le_of_eq m15) (cc15.old e14 (by omega))) ?_))))))))))))))))))
  show Wp 1 2 154 132 [(0, vr 55 0)] [] (rowR (newC μ15 70) 55 0 (up (mR (newC μ15 70) 55 0) 28 (mC μ15 70))) 15 5697 Q
  have c16 : Cnt (rowR (newC μ15 70) 55 0 (up (mR (newC μ15 70) 55 0) 28 (mC μ15 70))) (ord 55 0 + 16) := cc15.R
  have r16 : RO 325 (rowR (newC μ15 70) 55 0 (up (mR (newC μ15 70) 55 0) 28 (mC μ15 70))) (ord 55 0 + 16) [] := ((r15.new c15 e14 p14)).put m15
  have k16 : Kr 55 104 μ (rowR (newC μ15 70) 55 0 (up (mR (newC μ15 70) 55 0) 28 (mC μ15 70))) := ((k15.new 70)).R _
  have xo_16 : ∀ q, q ≠ 17 → mI (rowR (newC μ15 70) 55 0 (up (mR (newC μ15 70) 55 0) 28 (mC μ15 70))) 55 0 q = 0 := by intro q hq1; rw [mI_rowR]; rw [mI_newC, if_neg (by omega)]; exact xo_15 q hq1
  have xp_16 : mI (rowR (newC μ15 70) 55 0 (up (mR (newC μ15 70) 55 0) 28 (mC μ15 70))) 55 0 17 = (-1 : Int32) := by rw [mI_rowR]; rw [mI_newC, if_neg (by omega)]; exact xp_15
  generalize (rowR (newC μ15 70) 55 0 (up (mR (newC μ15 70) 55 0) 28 (mC μ15 70))) = μ16 at *
  have m16 := (c16.new e15).1
  have cc16 := (c16.new e15).2
  refine rn_ok ckx_154 (cut := cux_154) 1 _ _ _ _ _ _ (And.intro (by decide) (And.intro (by decide) (And.intro (by decide) (And.intro (by decide) (And.intro (by decide) (And.intro (by decide) (And.intro (by decide) (And.intro (by decide) (And.intro (c16.due e15 (fun _ => (by first | exact Or.inl rfl | exact Or.inr (by decide)))) (And.intro (by decide) (And.intro (by decide) (And.intro (by decide) (And.intro (by decide) (And.intro rfl (And.intro (cc16.old hN (by omega)) (And.intro rfl (And.intro (Or.inr (by decide)) (And.intro (Nat.lt_of_le_of_lt (Nat.le_of_eq m16) (cc16.old e15 (by omega))) ?_))))))))))))))))))
  show Wp 1 2 154 140 [(0, vr 55 0)] [] (rowR (newC μ16 71) 55 0 (up (mR (newC μ16 71) 55 0) 29 (mC μ16 71))) 16 5721 Q
  have c17 : Cnt (rowR (newC μ16 71) 55 0 (up (mR (newC μ16 71) 55 0) 29 (mC μ16 71))) (ord 55 0 + 17) := cc16.R
  have r17 : RO 325 (rowR (newC μ16 71) 55 0 (up (mR (newC μ16 71) 55 0) 29 (mC μ16 71))) (ord 55 0 + 17) [] := ((r16.new c16 e15 p15)).put m16
  have k17 : Kr 55 104 μ (rowR (newC μ16 71) 55 0 (up (mR (newC μ16 71) 55 0) 29 (mC μ16 71))) := ((k16.new 71)).R _
  have xo_17 : ∀ q, q ≠ 17 → mI (rowR (newC μ16 71) 55 0 (up (mR (newC μ16 71) 55 0) 29 (mC μ16 71))) 55 0 q = 0 := by intro q hq1; rw [mI_rowR]; rw [mI_newC, if_neg (by omega)]; exact xo_16 q hq1
  have xp_17 : mI (rowR (newC μ16 71) 55 0 (up (mR (newC μ16 71) 55 0) 29 (mC μ16 71))) 55 0 17 = (-1 : Int32) := by rw [mI_rowR]; rw [mI_newC, if_neg (by omega)]; exact xp_16
  generalize (rowR (newC μ16 71) 55 0 (up (mR (newC μ16 71) 55 0) 29 (mC μ16 71))) = μ17 at *
  have m17 := (c17.new e16).1
  have cc17 := (c17.new e16).2
  refine rn_ok ckx_154 (cut := cux_154) 1 _ _ _ _ _ _ (And.intro (by decide) (And.intro (by decide) (And.intro (by decide) (And.intro (by decide) (And.intro (by decide) (And.intro (by decide) (And.intro (by decide) (And.intro (by decide) (And.intro (c17.due e16 (fun _ => (by first | exact Or.inl rfl | exact Or.inr (by decide)))) (And.intro (by decide) (And.intro (by decide) (And.intro (by decide) (And.intro (by decide) (And.intro rfl (And.intro (cc17.old hN (by omega)) (And.intro rfl (And.intro (Or.inr (by decide)) (And.intro (Nat.lt_of_le_of_lt (Nat.le_of_eq m17) (cc17.old e16 (by omega))) ?_))))))))))))))))))
  show Wp 1 2 154 148 [(0, vr 55 0)] [] (rowR (newC μ17 72) 55 0 (up (mR (newC μ17 72) 55 0) 30 (mC μ17 72))) 17 5745 Q
  have c18 : Cnt (rowR (newC μ17 72) 55 0 (up (mR (newC μ17 72) 55 0) 30 (mC μ17 72))) (ord 55 0 + 18) := cc17.R
  have r18 : RO 325 (rowR (newC μ17 72) 55 0 (up (mR (newC μ17 72) 55 0) 30 (mC μ17 72))) (ord 55 0 + 18) [] := ((r17.new c17 e16 p16)).put m17
  have k18 : Kr 55 104 μ (rowR (newC μ17 72) 55 0 (up (mR (newC μ17 72) 55 0) 30 (mC μ17 72))) := ((k17.new 72)).R _
  have xo_18 : ∀ q, q ≠ 17 → mI (rowR (newC μ17 72) 55 0 (up (mR (newC μ17 72) 55 0) 30 (mC μ17 72))) 55 0 q = 0 := by intro q hq1; rw [mI_rowR]; rw [mI_newC, if_neg (by omega)]; exact xo_17 q hq1
  have xp_18 : mI (rowR (newC μ17 72) 55 0 (up (mR (newC μ17 72) 55 0) 30 (mC μ17 72))) 55 0 17 = (-1 : Int32) := by rw [mI_rowR]; rw [mI_newC, if_neg (by omega)]; exact xp_17
  generalize (rowR (newC μ17 72) 55 0 (up (mR (newC μ17 72) 55 0) 30 (mC μ17 72))) = μ18 at *
  have m18 := (c18.new e17).1
  have cc18 := (c18.new e17).2
  refine rn_ok ckx_154 (cut := cux_154) 1 _ _ _ _ _ _ (And.intro (by decide) (And.intro (by decide) (And.intro (by decide) (And.intro (by decide) (And.intro (by decide) (And.intro (by decide) (And.intro (by decide) (And.intro (by decide) (And.intro (c18.due e17 (fun _ => (by first | exact Or.inl rfl | exact Or.inr (by decide)))) (And.intro (by decide) (And.intro (by decide) (And.intro (by decide) (And.intro (by decide) (And.intro rfl (And.intro (cc18.old hN (by omega)) (And.intro rfl (And.intro (Or.inr (by decide)) (And.intro (Nat.lt_of_le_of_lt (Nat.le_of_eq m18) (cc18.old e17 (by omega))) ?_))))))))))))))))))
  show Wp 1 2 154 156 [(0, vr 55 0)] [] (rowR (newC μ18 73) 55 0 (up (mR (newC μ18 73) 55 0) 31 (mC μ18 73))) 18 5769 Q
  have c19 : Cnt (rowR (newC μ18 73) 55 0 (up (mR (newC μ18 73) 55 0) 31 (mC μ18 73))) (ord 55 0 + 19) := cc18.R
  have r19 : RO 325 (rowR (newC μ18 73) 55 0 (up (mR (newC μ18 73) 55 0) 31 (mC μ18 73))) (ord 55 0 + 19) [] := ((r18.new c18 e17 p17)).put m18
  have k19 : Kr 55 104 μ (rowR (newC μ18 73) 55 0 (up (mR (newC μ18 73) 55 0) 31 (mC μ18 73))) := ((k18.new 73)).R _
  have xo_19 : ∀ q, q ≠ 17 → mI (rowR (newC μ18 73) 55 0 (up (mR (newC μ18 73) 55 0) 31 (mC μ18 73))) 55 0 q = 0 := by intro q hq1; rw [mI_rowR]; rw [mI_newC, if_neg (by omega)]; exact xo_18 q hq1
  have xp_19 : mI (rowR (newC μ18 73) 55 0 (up (mR (newC μ18 73) 55 0) 31 (mC μ18 73))) 55 0 17 = (-1 : Int32) := by rw [mI_rowR]; rw [mI_newC, if_neg (by omega)]; exact xp_18
  generalize (rowR (newC μ18 73) 55 0 (up (mR (newC μ18 73) 55 0) 31 (mC μ18 73))) = μ19 at *
  have m19 := (c19.new e18).1
  have cc19 := (c19.new e18).2
  refine rn_ok ckx_154 (cut := cux_154) 1 _ _ _ _ _ _ (And.intro (by decide) (And.intro (by decide) (And.intro (by decide) (And.intro (by decide) (And.intro (by decide) (And.intro (by decide) (And.intro (by decide) (And.intro (by decide) (And.intro (c19.due e18 (fun _ => (by first | exact Or.inl rfl | exact Or.inr (by decide)))) (And.intro (by decide) (And.intro (by decide) (And.intro (by decide) (And.intro (by decide) (And.intro rfl (And.intro (cc19.old hN (by omega)) (And.intro rfl (And.intro (Or.inr (by decide)) (And.intro (Nat.lt_of_le_of_lt (Nat.le_of_eq m19) (cc19.old e18 (by omega))) ?_))))))))))))))))))
  show Wp 1 2 154 163 [(0, vr 55 0)] [] (rowR (newC μ19 74) 55 0 (up (mR (newC μ19 74) 55 0) 32 (mC μ19 74))) 19 5771 Q
  have c20 : Cnt (rowR (newC μ19 74) 55 0 (up (mR (newC μ19 74) 55 0) 32 (mC μ19 74))) (ord 55 0 + 20) := cc19.R
  have r20 : RO 325 (rowR (newC μ19 74) 55 0 (up (mR (newC μ19 74) 55 0) 32 (mC μ19 74))) (ord 55 0 + 20) [] := ((r19.new c19 e18 p18)).put m19
  have k20 : Kr 55 104 μ (rowR (newC μ19 74) 55 0 (up (mR (newC μ19 74) 55 0) 32 (mC μ19 74))) := ((k19.new 74)).R _
  have xo_20 : ∀ q, q ≠ 17 → mI (rowR (newC μ19 74) 55 0 (up (mR (newC μ19 74) 55 0) 32 (mC μ19 74))) 55 0 q = 0 := by intro q hq1; rw [mI_rowR]; rw [mI_newC, if_neg (by omega)]; exact xo_19 q hq1
  have xp_20 : mI (rowR (newC μ19 74) 55 0 (up (mR (newC μ19 74) 55 0) 32 (mC μ19 74))) 55 0 17 = (-1 : Int32) := by rw [mI_rowR]; rw [mI_newC, if_neg (by omega)]; exact xp_19
  generalize (rowR (newC μ19 74) 55 0 (up (mR (newC μ19 74) 55 0) 32 (mC μ19 74))) = μ20 at *
  have m20 := (c20.new e19).1
  have cc20 := (c20.new e19).2
  refine rn_ok ckx_154 (cut := cux_154) 1 _ _ _ _ _ _ (And.intro (by decide) (And.intro (by decide) (And.intro (by decide) (And.intro (by decide) (And.intro (by decide) (And.intro (by decide) (And.intro (by decide) (And.intro (by decide) (And.intro (c20.due e19 (fun _ => (by first | exact Or.inl rfl | exact Or.inr (by decide)))) (And.intro (by decide) (And.intro (by decide) (And.intro (by decide) (And.intro (by decide) (And.intro rfl (And.intro (cc20.old hN (by omega)) (And.intro rfl (And.intro (Or.inr (by decide)) (And.intro (Nat.lt_of_le_of_lt (Nat.le_of_eq m20) (cc20.old e19 (by omega))) ?_))))))))))))))))))
  show Wp 1 2 154 170 [(0, vr 55 0)] [] (rowR (newC μ20 75) 55 0 (up (mR (newC μ20 75) 55 0) 33 (mC μ20 75))) 20 5773 Q
  have c21 : Cnt (rowR (newC μ20 75) 55 0 (up (mR (newC μ20 75) 55 0) 33 (mC μ20 75))) (ord 55 0 + 21) := cc20.R
  have r21 : RO 325 (rowR (newC μ20 75) 55 0 (up (mR (newC μ20 75) 55 0) 33 (mC μ20 75))) (ord 55 0 + 21) [] := ((r20.new c20 e19 p19)).put m20
  have k21 : Kr 55 104 μ (rowR (newC μ20 75) 55 0 (up (mR (newC μ20 75) 55 0) 33 (mC μ20 75))) := ((k20.new 75)).R _
  have xo_21 : ∀ q, q ≠ 17 → mI (rowR (newC μ20 75) 55 0 (up (mR (newC μ20 75) 55 0) 33 (mC μ20 75))) 55 0 q = 0 := by intro q hq1; rw [mI_rowR]; rw [mI_newC, if_neg (by omega)]; exact xo_20 q hq1
  have xp_21 : mI (rowR (newC μ20 75) 55 0 (up (mR (newC μ20 75) 55 0) 33 (mC μ20 75))) 55 0 17 = (-1 : Int32) := by rw [mI_rowR]; rw [mI_newC, if_neg (by omega)]; exact xp_20
  generalize (rowR (newC μ20 75) 55 0 (up (mR (newC μ20 75) 55 0) 33 (mC μ20 75))) = μ21 at *
  have m21 := (c21.new e20).1
  have cc21 := (c21.new e20).2
  refine rn_ok ckx_154 (cut := cux_154) 1 _ _ _ _ _ _ (And.intro (by decide) (And.intro (by decide) (And.intro (by decide) (And.intro (by decide) (And.intro (by decide) (And.intro (by decide) (And.intro (by decide) (And.intro (by decide) (And.intro (c21.due e20 (fun _ => (by first | exact Or.inl rfl | exact Or.inr (by decide)))) (And.intro (by decide) (And.intro (by decide) (And.intro (by decide) (And.intro (by decide) (And.intro rfl (And.intro (cc21.old hN (by omega)) (And.intro rfl (And.intro (Or.inr (by decide)) (And.intro (Nat.lt_of_le_of_lt (Nat.le_of_eq m21) (cc21.old e20 (by omega))) ?_))))))))))))))))))
  show Wp 1 2 154 178 [(0, vr 55 0)] [] (rowR (newC μ21 76) 55 0 (up (mR (newC μ21 76) 55 0) 34 (mC μ21 76))) 21 5781 Q
  have c22 : Cnt (rowR (newC μ21 76) 55 0 (up (mR (newC μ21 76) 55 0) 34 (mC μ21 76))) (ord 55 0 + 22) := cc21.R
  have r22 : RO 325 (rowR (newC μ21 76) 55 0 (up (mR (newC μ21 76) 55 0) 34 (mC μ21 76))) (ord 55 0 + 22) [] := ((r21.new c21 e20 p20)).put m21
  have k22 : Kr 55 104 μ (rowR (newC μ21 76) 55 0 (up (mR (newC μ21 76) 55 0) 34 (mC μ21 76))) := ((k21.new 76)).R _
  have xo_22 : ∀ q, q ≠ 17 → mI (rowR (newC μ21 76) 55 0 (up (mR (newC μ21 76) 55 0) 34 (mC μ21 76))) 55 0 q = 0 := by intro q hq1; rw [mI_rowR]; rw [mI_newC, if_neg (by omega)]; exact xo_21 q hq1
  have xp_22 : mI (rowR (newC μ21 76) 55 0 (up (mR (newC μ21 76) 55 0) 34 (mC μ21 76))) 55 0 17 = (-1 : Int32) := by rw [mI_rowR]; rw [mI_newC, if_neg (by omega)]; exact xp_21
  generalize (rowR (newC μ21 76) 55 0 (up (mR (newC μ21 76) 55 0) 34 (mC μ21 76))) = μ22 at *
  have m22 := (c22.new e21).1
  have cc22 := (c22.new e21).2
  refine rn_ok ckx_154 (cut := cux_154) 1 _ _ _ _ _ _ (And.intro (by decide) (And.intro (by decide) (And.intro (by decide) (And.intro (by decide) (And.intro (by decide) (And.intro (by decide) (And.intro (by decide) (And.intro (by decide) (And.intro (c22.due e21 (fun _ => (by first | exact Or.inl rfl | exact Or.inr (by decide)))) (And.intro (by decide) (And.intro (by decide) (And.intro (by decide) (And.intro (by decide) (And.intro rfl (And.intro (cc22.old hN (by omega)) (And.intro rfl (And.intro (Or.inr (by decide)) (And.intro (Nat.lt_of_le_of_lt (Nat.le_of_eq m22) (cc22.old e21 (by omega))) ?_))))))))))))))))))
  show Wp 1 2 154 186 [(0, vr 55 0)] [] (rowR (newC μ22 77) 55 0 (up (mR (newC μ22 77) 55 0) 35 (mC μ22 77))) 22 5789 Q
  have c23 : Cnt (rowR (newC μ22 77) 55 0 (up (mR (newC μ22 77) 55 0) 35 (mC μ22 77))) (ord 55 0 + 23) := cc22.R
  have r23 : RO 325 (rowR (newC μ22 77) 55 0 (up (mR (newC μ22 77) 55 0) 35 (mC μ22 77))) (ord 55 0 + 23) [] := ((r22.new c22 e21 p21)).put m22
  have k23 : Kr 55 104 μ (rowR (newC μ22 77) 55 0 (up (mR (newC μ22 77) 55 0) 35 (mC μ22 77))) := ((k22.new 77)).R _
  have xo_23 : ∀ q, q ≠ 17 → mI (rowR (newC μ22 77) 55 0 (up (mR (newC μ22 77) 55 0) 35 (mC μ22 77))) 55 0 q = 0 := by intro q hq1; rw [mI_rowR]; rw [mI_newC, if_neg (by omega)]; exact xo_22 q hq1
  have xp_23 : mI (rowR (newC μ22 77) 55 0 (up (mR (newC μ22 77) 55 0) 35 (mC μ22 77))) 55 0 17 = (-1 : Int32) := by rw [mI_rowR]; rw [mI_newC, if_neg (by omega)]; exact xp_22
  generalize (rowR (newC μ22 77) 55 0 (up (mR (newC μ22 77) 55 0) 35 (mC μ22 77))) = μ23 at *
  have m23 := (c23.new e22).1
  have cc23 := (c23.new e22).2
  refine rn_ok ckx_154 (cut := cux_154) 1 _ _ _ _ _ _ (And.intro (by decide) (And.intro (by decide) (And.intro (by decide) (And.intro (by decide) (And.intro (by decide) (And.intro (by decide) (And.intro (by decide) (And.intro (by decide) (And.intro (c23.due e22 (fun _ => (by first | exact Or.inl rfl | exact Or.inr (by decide)))) (And.intro (by decide) (And.intro (by decide) (And.intro (by decide) (And.intro (by decide) (And.intro rfl (And.intro (cc23.old hN (by omega)) (And.intro rfl (And.intro (Or.inr (by decide)) (And.intro (Nat.lt_of_le_of_lt (Nat.le_of_eq m23) (cc23.old e22 (by omega))) ?_))))))))))))))))))
  show Wp 1 2 154 195 [(0, vr 55 0)] [] (rowR (newC μ23 78) 55 0 (up (mR (newC μ23 78) 55 0) 37 (mC μ23 78))) 23 6049 Q
  have c24 : Cnt (rowR (newC μ23 78) 55 0 (up (mR (newC μ23 78) 55 0) 37 (mC μ23 78))) (ord 55 0 + 24) := cc23.R
  have r24 : RO 325 (rowR (newC μ23 78) 55 0 (up (mR (newC μ23 78) 55 0) 37 (mC μ23 78))) (ord 55 0 + 24) [] := ((r23.new c23 e22 p22)).put m23
  have k24 : Kr 55 104 μ (rowR (newC μ23 78) 55 0 (up (mR (newC μ23 78) 55 0) 37 (mC μ23 78))) := ((k23.new 78)).R _
  have xo_24 : ∀ q, q ≠ 17 → mI (rowR (newC μ23 78) 55 0 (up (mR (newC μ23 78) 55 0) 37 (mC μ23 78))) 55 0 q = 0 := by intro q hq1; rw [mI_rowR]; rw [mI_newC, if_neg (by omega)]; exact xo_23 q hq1
  have xp_24 : mI (rowR (newC μ23 78) 55 0 (up (mR (newC μ23 78) 55 0) 37 (mC μ23 78))) 55 0 17 = (-1 : Int32) := by rw [mI_rowR]; rw [mI_newC, if_neg (by omega)]; exact xp_23
  generalize (rowR (newC μ23 78) 55 0 (up (mR (newC μ23 78) 55 0) 37 (mC μ23 78))) = μ24 at *
  have m24 := (c24.new e23).1
  have cc24 := (c24.new e23).2
  refine rn_ok ckx_154 (cut := cux_154) 1 _ _ _ _ _ _ (And.intro (by decide) (And.intro (by decide) (And.intro (by decide) (And.intro (by decide) (And.intro (by decide) (And.intro (by decide) (And.intro (by decide) (And.intro (by decide) (And.intro (c24.due e23 (fun _ => (by first | exact Or.inl rfl | exact Or.inr (by decide)))) (And.intro (by decide) (And.intro (by decide) (And.intro (by decide) (And.intro (by decide) (And.intro rfl (And.intro (cc24.old hN (by omega)) (And.intro rfl (And.intro (Or.inr (by decide)) (And.intro (Nat.lt_of_le_of_lt (Nat.le_of_eq m24) (cc24.old e23 (by omega))) ?_))))))))))))))))))
  show Wp 1 2 154 204 [(0, vr 55 0)] [] (rowR (newC μ24 79) 55 0 (up (mR (newC μ24 79) 55 0) 38 (mC μ24 79))) 24 6309 Q
  have c25 : Cnt (rowR (newC μ24 79) 55 0 (up (mR (newC μ24 79) 55 0) 38 (mC μ24 79))) (ord 55 0 + 25) := cc24.R
  have r25 : RO 325 (rowR (newC μ24 79) 55 0 (up (mR (newC μ24 79) 55 0) 38 (mC μ24 79))) (ord 55 0 + 25) [] := ((r24.new c24 e23 p23)).put m24
  have k25 : Kr 55 104 μ (rowR (newC μ24 79) 55 0 (up (mR (newC μ24 79) 55 0) 38 (mC μ24 79))) := ((k24.new 79)).R _
  have xo_25 : ∀ q, q ≠ 17 → mI (rowR (newC μ24 79) 55 0 (up (mR (newC μ24 79) 55 0) 38 (mC μ24 79))) 55 0 q = 0 := by intro q hq1; rw [mI_rowR]; rw [mI_newC, if_neg (by omega)]; exact xo_24 q hq1
  have xp_25 : mI (rowR (newC μ24 79) 55 0 (up (mR (newC μ24 79) 55 0) 38 (mC μ24 79))) 55 0 17 = (-1 : Int32) := by rw [mI_rowR]; rw [mI_newC, if_neg (by omega)]; exact xp_24
  generalize (rowR (newC μ24 79) 55 0 (up (mR (newC μ24 79) 55 0) 38 (mC μ24 79))) = μ25 at *
  have m25 := (c25.new e24).1
  have cc25 := (c25.new e24).2
  refine rn_ok ckx_154 (cut := cux_154) 1 _ _ _ _ _ _ (And.intro (by decide) (And.intro (by decide) (And.intro (by decide) (And.intro (by decide) (And.intro (by decide) (And.intro (by decide) (And.intro (by decide) (And.intro (by decide) (And.intro (c25.due e24 (fun _ => (by first | exact Or.inl rfl | exact Or.inr (by decide)))) (And.intro (by decide) (And.intro (by decide) (And.intro (by decide) (And.intro (by decide) (And.intro rfl (And.intro (cc25.old hN (by omega)) (And.intro rfl (And.intro (Or.inr (by decide)) (And.intro (Nat.lt_of_le_of_lt (Nat.le_of_eq m25) (cc25.old e24 (by omega))) ?_))))))))))))))))))
  show Wp 1 2 154 213 [(0, vr 55 0)] [] (rowR (newC μ25 80) 55 0 (up (mR (newC μ25 80) 55 0) 39 (mC μ25 80))) 25 6569 Q
  have c26 : Cnt (rowR (newC μ25 80) 55 0 (up (mR (newC μ25 80) 55 0) 39 (mC μ25 80))) (ord 55 0 + 26) := cc25.R
  have r26 : RO 325 (rowR (newC μ25 80) 55 0 (up (mR (newC μ25 80) 55 0) 39 (mC μ25 80))) (ord 55 0 + 26) [] := ((r25.new c25 e24 p24)).put m25
  have k26 : Kr 55 104 μ (rowR (newC μ25 80) 55 0 (up (mR (newC μ25 80) 55 0) 39 (mC μ25 80))) := ((k25.new 80)).R _
  have xo_26 : ∀ q, q ≠ 17 → mI (rowR (newC μ25 80) 55 0 (up (mR (newC μ25 80) 55 0) 39 (mC μ25 80))) 55 0 q = 0 := by intro q hq1; rw [mI_rowR]; rw [mI_newC, if_neg (by omega)]; exact xo_25 q hq1
  have xp_26 : mI (rowR (newC μ25 80) 55 0 (up (mR (newC μ25 80) 55 0) 39 (mC μ25 80))) 55 0 17 = (-1 : Int32) := by rw [mI_rowR]; rw [mI_newC, if_neg (by omega)]; exact xp_25
  generalize (rowR (newC μ25 80) 55 0 (up (mR (newC μ25 80) 55 0) 39 (mC μ25 80))) = μ26 at *
  have m26 := (c26.new e25).1
  have cc26 := (c26.new e25).2
  refine rn_ok ckx_154 (cut := cux_154) 1 _ _ _ _ _ _ (And.intro (by decide) (And.intro (by decide) (And.intro (by decide) (And.intro (by decide) (And.intro (by decide) (And.intro (by decide) (And.intro (by decide) (And.intro (by decide) (And.intro (c26.due e25 (fun _ => (by first | exact Or.inl rfl | exact Or.inr (by decide)))) (And.intro (by decide) (And.intro (by decide) (And.intro (by decide) (And.intro (by decide) (And.intro rfl (And.intro (cc26.old hN (by omega)) (And.intro rfl (And.intro (Or.inr (by decide)) (And.intro (Nat.lt_of_le_of_lt (Nat.le_of_eq m26) (cc26.old e25 (by omega))) ?_))))))))))))))))))
  show Wp 1 2 154 222 [(0, vr 55 0)] [] (rowR (newC μ26 81) 55 0 (up (mR (newC μ26 81) 55 0) 40 (mC μ26 81))) 26 6829 Q
  have c27 : Cnt (rowR (newC μ26 81) 55 0 (up (mR (newC μ26 81) 55 0) 40 (mC μ26 81))) (ord 55 0 + 27) := cc26.R
  have r27 : RO 325 (rowR (newC μ26 81) 55 0 (up (mR (newC μ26 81) 55 0) 40 (mC μ26 81))) (ord 55 0 + 27) [] := ((r26.new c26 e25 p25)).put m26
  have k27 : Kr 55 104 μ (rowR (newC μ26 81) 55 0 (up (mR (newC μ26 81) 55 0) 40 (mC μ26 81))) := ((k26.new 81)).R _
  have xo_27 : ∀ q, q ≠ 17 → mI (rowR (newC μ26 81) 55 0 (up (mR (newC μ26 81) 55 0) 40 (mC μ26 81))) 55 0 q = 0 := by intro q hq1; rw [mI_rowR]; rw [mI_newC, if_neg (by omega)]; exact xo_26 q hq1
  have xp_27 : mI (rowR (newC μ26 81) 55 0 (up (mR (newC μ26 81) 55 0) 40 (mC μ26 81))) 55 0 17 = (-1 : Int32) := by rw [mI_rowR]; rw [mI_newC, if_neg (by omega)]; exact xp_26
  generalize (rowR (newC μ26 81) 55 0 (up (mR (newC μ26 81) 55 0) 40 (mC μ26 81))) = μ27 at *
  have m27 := (c27.new e26).1
  have cc27 := (c27.new e26).2
  refine rn_ok ckx_154 (cut := cux_154) 1 _ _ _ _ _ _ (And.intro (by decide) (And.intro (by decide) (And.intro (by decide) (And.intro (by decide) (And.intro (by decide) (And.intro (by decide) (And.intro (by decide) (And.intro (by decide) (And.intro (c27.due e26 (fun _ => (by first | exact Or.inl rfl | exact Or.inr (by decide)))) (And.intro (by decide) (And.intro (by decide) (And.intro (by decide) (And.intro (by decide) (And.intro rfl (And.intro (cc27.old hN (by omega)) (And.intro rfl (And.intro (Or.inr (by decide)) (And.intro (Nat.lt_of_le_of_lt (Nat.le_of_eq m27) (cc27.old e26 (by omega))) ?_))))))))))))))))))
  show Wp 1 2 154 231 [(0, vr 55 0)] [] (rowR (newC μ27 82) 55 0 (up (mR (newC μ27 82) 55 0) 41 (mC μ27 82))) 27 7089 Q
  have c28 : Cnt (rowR (newC μ27 82) 55 0 (up (mR (newC μ27 82) 55 0) 41 (mC μ27 82))) (ord 55 0 + 28) := cc27.R
  have r28 : RO 325 (rowR (newC μ27 82) 55 0 (up (mR (newC μ27 82) 55 0) 41 (mC μ27 82))) (ord 55 0 + 28) [] := ((r27.new c27 e26 p26)).put m27
  have k28 : Kr 55 104 μ (rowR (newC μ27 82) 55 0 (up (mR (newC μ27 82) 55 0) 41 (mC μ27 82))) := ((k27.new 82)).R _
  have xo_28 : ∀ q, q ≠ 17 → mI (rowR (newC μ27 82) 55 0 (up (mR (newC μ27 82) 55 0) 41 (mC μ27 82))) 55 0 q = 0 := by intro q hq1; rw [mI_rowR]; rw [mI_newC, if_neg (by omega)]; exact xo_27 q hq1
  have xp_28 : mI (rowR (newC μ27 82) 55 0 (up (mR (newC μ27 82) 55 0) 41 (mC μ27 82))) 55 0 17 = (-1 : Int32) := by rw [mI_rowR]; rw [mI_newC, if_neg (by omega)]; exact xp_27
  generalize (rowR (newC μ27 82) 55 0 (up (mR (newC μ27 82) 55 0) 41 (mC μ27 82))) = μ28 at *
  have m28 := (c28.new e27).1
  have cc28 := (c28.new e27).2
  refine rn_ok ckx_154 (cut := cux_154) 1 _ _ _ _ _ _ (And.intro (by decide) (And.intro (by decide) (And.intro (by decide) (And.intro (by decide) (And.intro (by decide) (And.intro (by decide) (And.intro (by decide) (And.intro (by decide) (And.intro (c28.due e27 (fun _ => (by first | exact Or.inl rfl | exact Or.inr (by decide)))) (And.intro (by decide) (And.intro (by decide) (And.intro (by decide) (And.intro (by decide) (And.intro rfl (And.intro (cc28.old hN (by omega)) (And.intro rfl (And.intro (Or.inr (by decide)) (And.intro (Nat.lt_of_le_of_lt (Nat.le_of_eq m28) (cc28.old e27 (by omega))) ?_))))))))))))))))))
  show Wp 1 2 154 240 [(0, vr 55 0)] [] (rowR (newC μ28 83) 55 0 (up (mR (newC μ28 83) 55 0) 43 (mC μ28 83))) 28 7929 Q
  have c29 : Cnt (rowR (newC μ28 83) 55 0 (up (mR (newC μ28 83) 55 0) 43 (mC μ28 83))) (ord 55 0 + 29) := cc28.R
  have r29 : RO 325 (rowR (newC μ28 83) 55 0 (up (mR (newC μ28 83) 55 0) 43 (mC μ28 83))) (ord 55 0 + 29) [] := ((r28.new c28 e27 p27)).put m28
  have k29 : Kr 55 104 μ (rowR (newC μ28 83) 55 0 (up (mR (newC μ28 83) 55 0) 43 (mC μ28 83))) := ((k28.new 83)).R _
  have xo_29 : ∀ q, q ≠ 17 → mI (rowR (newC μ28 83) 55 0 (up (mR (newC μ28 83) 55 0) 43 (mC μ28 83))) 55 0 q = 0 := by intro q hq1; rw [mI_rowR]; rw [mI_newC, if_neg (by omega)]; exact xo_28 q hq1
  have xp_29 : mI (rowR (newC μ28 83) 55 0 (up (mR (newC μ28 83) 55 0) 43 (mC μ28 83))) 55 0 17 = (-1 : Int32) := by rw [mI_rowR]; rw [mI_newC, if_neg (by omega)]; exact xp_28
  generalize (rowR (newC μ28 83) 55 0 (up (mR (newC μ28 83) 55 0) 43 (mC μ28 83))) = μ29 at *
  have m29 := (c29.new e28).1
  have cc29 := (c29.new e28).2
  refine rn_ok ckx_154 (cut := cux_154) 1 _ _ _ _ _ _ (And.intro (by decide) (And.intro (by decide) (And.intro (by decide) (And.intro (by decide) (And.intro (by decide) (And.intro (by decide) (And.intro (by decide) (And.intro (by decide) (And.intro (c29.due e28 (fun _ => (by first | exact Or.inl rfl | exact Or.inr (by decide)))) (And.intro (by decide) (And.intro (by decide) (And.intro (by decide) (And.intro (by decide) (And.intro rfl (And.intro (cc29.old hN (by omega)) (And.intro rfl (And.intro (Or.inr (by decide)) (And.intro (Nat.lt_of_le_of_lt (Nat.le_of_eq m29) (cc29.old e28 (by omega))) ?_))))))))))))))))))
  show Wp 1 2 154 249 [(0, vr 55 0)] [] (rowR (newC μ29 84) 55 0 (up (mR (newC μ29 84) 55 0) 44 (mC μ29 84))) 29 8769 Q
  have c30 : Cnt (rowR (newC μ29 84) 55 0 (up (mR (newC μ29 84) 55 0) 44 (mC μ29 84))) (ord 55 0 + 30) := cc29.R
  have r30 : RO 325 (rowR (newC μ29 84) 55 0 (up (mR (newC μ29 84) 55 0) 44 (mC μ29 84))) (ord 55 0 + 30) [] := ((r29.new c29 e28 p28)).put m29
  have k30 : Kr 55 104 μ (rowR (newC μ29 84) 55 0 (up (mR (newC μ29 84) 55 0) 44 (mC μ29 84))) := ((k29.new 84)).R _
  have xo_30 : ∀ q, q ≠ 17 → mI (rowR (newC μ29 84) 55 0 (up (mR (newC μ29 84) 55 0) 44 (mC μ29 84))) 55 0 q = 0 := by intro q hq1; rw [mI_rowR]; rw [mI_newC, if_neg (by omega)]; exact xo_29 q hq1
  have xp_30 : mI (rowR (newC μ29 84) 55 0 (up (mR (newC μ29 84) 55 0) 44 (mC μ29 84))) 55 0 17 = (-1 : Int32) := by rw [mI_rowR]; rw [mI_newC, if_neg (by omega)]; exact xp_29
  generalize (rowR (newC μ29 84) 55 0 (up (mR (newC μ29 84) 55 0) 44 (mC μ29 84))) = μ30 at *
  have m30 := (c30.new e29).1
  have cc30 := (c30.new e29).2
  refine rn_ok ckx_154 (cut := cux_154) 1 _ _ _ _ _ _ (And.intro (by decide) (And.intro (by decide) (And.intro (by decide) (And.intro (by decide) (And.intro (by decide) (And.intro (by decide) (And.intro (by decide) (And.intro (by decide) (And.intro (c30.due e29 (fun _ => (by first | exact Or.inl rfl | exact Or.inr (by decide)))) (And.intro (by decide) (And.intro (by decide) (And.intro (by decide) (And.intro (by decide) (And.intro rfl (And.intro (cc30.old hN (by omega)) (And.intro rfl (And.intro (Or.inr (by decide)) (And.intro (Nat.lt_of_le_of_lt (Nat.le_of_eq m30) (cc30.old e29 (by omega))) ?_))))))))))))))))))
  show Wp 1 2 154 257 [(0, vr 55 0)] [] (rowR (newC μ30 85) 55 0 (up (mR (newC μ30 85) 55 0) 45 (mC μ30 85))) 30 8833 Q
  have c31 : Cnt (rowR (newC μ30 85) 55 0 (up (mR (newC μ30 85) 55 0) 45 (mC μ30 85))) (ord 55 0 + 31) := cc30.R
  have r31 : RO 325 (rowR (newC μ30 85) 55 0 (up (mR (newC μ30 85) 55 0) 45 (mC μ30 85))) (ord 55 0 + 31) [] := ((r30.new c30 e29 p29)).put m30
  have k31 : Kr 55 104 μ (rowR (newC μ30 85) 55 0 (up (mR (newC μ30 85) 55 0) 45 (mC μ30 85))) := ((k30.new 85)).R _
  have xo_31 : ∀ q, q ≠ 17 → mI (rowR (newC μ30 85) 55 0 (up (mR (newC μ30 85) 55 0) 45 (mC μ30 85))) 55 0 q = 0 := by intro q hq1; rw [mI_rowR]; rw [mI_newC, if_neg (by omega)]; exact xo_30 q hq1
  have xp_31 : mI (rowR (newC μ30 85) 55 0 (up (mR (newC μ30 85) 55 0) 45 (mC μ30 85))) 55 0 17 = (-1 : Int32) := by rw [mI_rowR]; rw [mI_newC, if_neg (by omega)]; exact xp_30
  generalize (rowR (newC μ30 85) 55 0 (up (mR (newC μ30 85) 55 0) 45 (mC μ30 85))) = μ31 at *
  have m31 := (c31.new e30).1
  have cc31 := (c31.new e30).2
  refine rn_ok ckx_154 (cut := cux_154) 1 _ _ _ _ _ _ (And.intro (by decide) (And.intro (by decide) (And.intro (by decide) (And.intro (by decide) (And.intro (by decide) (And.intro (by decide) (And.intro (by decide) (And.intro (by decide) (And.intro (c31.due e30 (fun _ => (by first | exact Or.inl rfl | exact Or.inr (by decide)))) (And.intro (by decide) (And.intro (by decide) (And.intro (by decide) (And.intro (by decide) (And.intro rfl (And.intro (cc31.old hN (by omega)) (And.intro rfl (And.intro (Or.inr (by decide)) (And.intro (Nat.lt_of_le_of_lt (Nat.le_of_eq m31) (cc31.old e30 (by omega))) ?_))))))))))))))))))
  show Wp 1 2 154 265 [(0, vr 55 0)] [] (rowR (newC μ31 86) 55 0 (up (mR (newC μ31 86) 55 0) 47 (mC μ31 86))) 31 8842 Q
  have c32 : Cnt (rowR (newC μ31 86) 55 0 (up (mR (newC μ31 86) 55 0) 47 (mC μ31 86))) (ord 55 0 + 32) := cc31.R
  have r32 : RO 325 (rowR (newC μ31 86) 55 0 (up (mR (newC μ31 86) 55 0) 47 (mC μ31 86))) (ord 55 0 + 32) [] := ((r31.new c31 e30 p30)).put m31
  have k32 : Kr 55 104 μ (rowR (newC μ31 86) 55 0 (up (mR (newC μ31 86) 55 0) 47 (mC μ31 86))) := ((k31.new 86)).R _
  have xo_32 : ∀ q, q ≠ 17 → mI (rowR (newC μ31 86) 55 0 (up (mR (newC μ31 86) 55 0) 47 (mC μ31 86))) 55 0 q = 0 := by intro q hq1; rw [mI_rowR]; rw [mI_newC, if_neg (by omega)]; exact xo_31 q hq1
  have xp_32 : mI (rowR (newC μ31 86) 55 0 (up (mR (newC μ31 86) 55 0) 47 (mC μ31 86))) 55 0 17 = (-1 : Int32) := by rw [mI_rowR]; rw [mI_newC, if_neg (by omega)]; exact xp_31
  generalize (rowR (newC μ31 86) 55 0 (up (mR (newC μ31 86) 55 0) 47 (mC μ31 86))) = μ32 at *
  have m32 := (c32.new e31).1
  have cc32 := (c32.new e31).2
  refine rn_ok ckx_154 (cut := cux_154) 1 _ _ _ _ _ _ (And.intro (by decide) (And.intro (by decide) (And.intro (by decide) (And.intro (by decide) (And.intro (by decide) (And.intro (by decide) (And.intro (by decide) (And.intro (by decide) (And.intro (c32.due e31 (fun _ => (by first | exact Or.inl rfl | exact Or.inr (by decide)))) (And.intro (by decide) (And.intro (by decide) (And.intro (by decide) (And.intro (by decide) (And.intro rfl (And.intro (cc32.old hN (by omega)) (And.intro rfl (And.intro (Or.inr (by decide)) (And.intro (Nat.lt_of_le_of_lt (Nat.le_of_eq m32) (cc32.old e31 (by omega))) ?_))))))))))))))))))
  show Wp 1 2 154 274 [(0, vr 55 0)] [] (rowR (newC μ32 87) 55 0 (up (mR (newC μ32 87) 55 0) 48 (mC μ32 87))) 32 9242 Q
  have c33 : Cnt (rowR (newC μ32 87) 55 0 (up (mR (newC μ32 87) 55 0) 48 (mC μ32 87))) (ord 55 0 + 33) := cc32.R
  have r33 : RO 325 (rowR (newC μ32 87) 55 0 (up (mR (newC μ32 87) 55 0) 48 (mC μ32 87))) (ord 55 0 + 33) [] := ((r32.new c32 e31 p31)).put m32
  have k33 : Kr 55 104 μ (rowR (newC μ32 87) 55 0 (up (mR (newC μ32 87) 55 0) 48 (mC μ32 87))) := ((k32.new 87)).R _
  have xo_33 : ∀ q, q ≠ 17 → mI (rowR (newC μ32 87) 55 0 (up (mR (newC μ32 87) 55 0) 48 (mC μ32 87))) 55 0 q = 0 := by intro q hq1; rw [mI_rowR]; rw [mI_newC, if_neg (by omega)]; exact xo_32 q hq1
  have xp_33 : mI (rowR (newC μ32 87) 55 0 (up (mR (newC μ32 87) 55 0) 48 (mC μ32 87))) 55 0 17 = (-1 : Int32) := by rw [mI_rowR]; rw [mI_newC, if_neg (by omega)]; exact xp_32
  generalize (rowR (newC μ32 87) 55 0 (up (mR (newC μ32 87) 55 0) 48 (mC μ32 87))) = μ33 at *
  have m33 := (c33.new e32).1
  have cc33 := (c33.new e32).2
  refine rn_ok ckx_154 (cut := cux_154) 1 _ _ _ _ _ _ (And.intro (by decide) (And.intro (by decide) (And.intro (by decide) (And.intro (by decide) (And.intro (by decide) (And.intro (by decide) (And.intro (by decide) (And.intro (by decide) (And.intro (c33.due e32 (fun _ => (by first | exact Or.inl rfl | exact Or.inr (by decide)))) (And.intro (by decide) (And.intro (by decide) (And.intro (by decide) (And.intro (by decide) (And.intro rfl (And.intro (cc33.old hN (by omega)) (And.intro rfl (And.intro (Or.inr (by decide)) (And.intro (Nat.lt_of_le_of_lt (Nat.le_of_eq m33) (cc33.old e32 (by omega))) ?_))))))))))))))))))
  show Wp 1 2 154 282 [(0, vr 55 0)] [] (rowR (newC μ33 88) 55 0 (up (mR (newC μ33 88) 55 0) 50 (mC μ33 88))) 33 9275 Q
  have c34 : Cnt (rowR (newC μ33 88) 55 0 (up (mR (newC μ33 88) 55 0) 50 (mC μ33 88))) (ord 55 0 + 34) := cc33.R
  have r34 : RO 325 (rowR (newC μ33 88) 55 0 (up (mR (newC μ33 88) 55 0) 50 (mC μ33 88))) (ord 55 0 + 34) [] := ((r33.new c33 e32 p32)).put m33
  have k34 : Kr 55 104 μ (rowR (newC μ33 88) 55 0 (up (mR (newC μ33 88) 55 0) 50 (mC μ33 88))) := ((k33.new 88)).R _
  have xo_34 : ∀ q, q ≠ 17 → mI (rowR (newC μ33 88) 55 0 (up (mR (newC μ33 88) 55 0) 50 (mC μ33 88))) 55 0 q = 0 := by intro q hq1; rw [mI_rowR]; rw [mI_newC, if_neg (by omega)]; exact xo_33 q hq1
  have xp_34 : mI (rowR (newC μ33 88) 55 0 (up (mR (newC μ33 88) 55 0) 50 (mC μ33 88))) 55 0 17 = (-1 : Int32) := by rw [mI_rowR]; rw [mI_newC, if_neg (by omega)]; exact xp_33
  generalize (rowR (newC μ33 88) 55 0 (up (mR (newC μ33 88) 55 0) 50 (mC μ33 88))) = μ34 at *
  have m34 := (c34.new e33).1
  have cc34 := (c34.new e33).2
  refine rn_ok ckx_154 (cut := cux_154) 1 _ _ _ _ _ _ (And.intro (by decide) (And.intro (by decide) (And.intro (by decide) (And.intro (by decide) (And.intro (by decide) (And.intro (by decide) (And.intro (by decide) (And.intro (by decide) (And.intro (c34.due e33 (fun _ => (by first | exact Or.inl rfl | exact Or.inr (by decide)))) (And.intro (by decide) (And.intro (by decide) (And.intro (by decide) (And.intro (by decide) (And.intro rfl (And.intro (cc34.old hN (by omega)) (And.intro rfl (And.intro (Or.inr (by decide)) (And.intro (Nat.lt_of_le_of_lt (Nat.le_of_eq m34) (cc34.old e33 (by omega))) ?_))))))))))))))))))
  show Wp 1 2 154 290 [(0, vr 55 0)] [] (rowR (newC μ34 89) 55 0 (up (mR (newC μ34 89) 55 0) 51 (mC μ34 89))) 34 9308 Q
  have c35 : Cnt (rowR (newC μ34 89) 55 0 (up (mR (newC μ34 89) 55 0) 51 (mC μ34 89))) (ord 55 0 + 35) := cc34.R
  have r35 : RO 325 (rowR (newC μ34 89) 55 0 (up (mR (newC μ34 89) 55 0) 51 (mC μ34 89))) (ord 55 0 + 35) [] := ((r34.new c34 e33 p33)).put m34
  have k35 : Kr 55 104 μ (rowR (newC μ34 89) 55 0 (up (mR (newC μ34 89) 55 0) 51 (mC μ34 89))) := ((k34.new 89)).R _
  have xo_35 : ∀ q, q ≠ 17 → mI (rowR (newC μ34 89) 55 0 (up (mR (newC μ34 89) 55 0) 51 (mC μ34 89))) 55 0 q = 0 := by intro q hq1; rw [mI_rowR]; rw [mI_newC, if_neg (by omega)]; exact xo_34 q hq1
  have xp_35 : mI (rowR (newC μ34 89) 55 0 (up (mR (newC μ34 89) 55 0) 51 (mC μ34 89))) 55 0 17 = (-1 : Int32) := by rw [mI_rowR]; rw [mI_newC, if_neg (by omega)]; exact xp_34
  generalize (rowR (newC μ34 89) 55 0 (up (mR (newC μ34 89) 55 0) 51 (mC μ34 89))) = μ35 at *
  have m35 := (c35.new e34).1
  have cc35 := (c35.new e34).2
  refine rn_ok ckx_154 (cut := cux_154) 1 _ _ _ _ _ _ (And.intro (by decide) (And.intro (by decide) (And.intro (by decide) (And.intro (by decide) (And.intro (by decide) (And.intro (by decide) (And.intro (by decide) (And.intro (by decide) (And.intro (c35.due e34 (fun _ => (by first | exact Or.inl rfl | exact Or.inr (by decide)))) (And.intro (by decide) (And.intro (by decide) (And.intro (by decide) (And.intro (by decide) (And.intro rfl (And.intro (cc35.old hN (by omega)) (And.intro rfl (And.intro (Or.inr (by decide)) (And.intro (Nat.lt_of_le_of_lt (Nat.le_of_eq m35) (cc35.old e34 (by omega))) ?_))))))))))))))))))
  show Wp 1 2 154 297 [(0, vr 55 0)] [] (rowR (newC μ35 90) 55 0 (up (mR (newC μ35 90) 55 0) 54 (mC μ35 90))) 35 9312 Q
  have c36 : Cnt (rowR (newC μ35 90) 55 0 (up (mR (newC μ35 90) 55 0) 54 (mC μ35 90))) (ord 55 0 + 36) := cc35.R
  have r36 : RO 325 (rowR (newC μ35 90) 55 0 (up (mR (newC μ35 90) 55 0) 54 (mC μ35 90))) (ord 55 0 + 36) [] := ((r35.new c35 e34 p34)).put m35
  have k36 : Kr 55 104 μ (rowR (newC μ35 90) 55 0 (up (mR (newC μ35 90) 55 0) 54 (mC μ35 90))) := ((k35.new 90)).R _
  have xo_36 : ∀ q, q ≠ 17 → mI (rowR (newC μ35 90) 55 0 (up (mR (newC μ35 90) 55 0) 54 (mC μ35 90))) 55 0 q = 0 := by intro q hq1; rw [mI_rowR]; rw [mI_newC, if_neg (by omega)]; exact xo_35 q hq1
  have xp_36 : mI (rowR (newC μ35 90) 55 0 (up (mR (newC μ35 90) 55 0) 54 (mC μ35 90))) 55 0 17 = (-1 : Int32) := by rw [mI_rowR]; rw [mI_newC, if_neg (by omega)]; exact xp_35
  generalize (rowR (newC μ35 90) 55 0 (up (mR (newC μ35 90) 55 0) 54 (mC μ35 90))) = μ36 at *
  have m36 := (c36.new e35).1
  have cc36 := (c36.new e35).2
  refine rn_ok ckx_154 (cut := cux_154) 1 _ _ _ _ _ _ (And.intro (by decide) (And.intro (by decide) (And.intro (by decide) (And.intro (by decide) (And.intro (by decide) (And.intro (by decide) (And.intro (by decide) (And.intro (by decide) (And.intro (c36.due e35 (fun _ => (by first | exact Or.inl rfl | exact Or.inr (by decide)))) (And.intro (by decide) (And.intro (by decide) (And.intro (by decide) (And.intro (by decide) (And.intro rfl (And.intro (cc36.old hN (by omega)) (And.intro rfl (And.intro (Or.inr (by decide)) (And.intro (Nat.lt_of_le_of_lt (Nat.le_of_eq m36) (cc36.old e35 (by omega))) ?_))))))))))))))))))
  show Wp 1 2 154 305 [(0, vr 55 0)] [] (rowR (newC μ36 91) 55 0 (up (mR (newC μ36 91) 55 0) 55 (mC μ36 91))) 36 9328 Q
  have c37 : Cnt (rowR (newC μ36 91) 55 0 (up (mR (newC μ36 91) 55 0) 55 (mC μ36 91))) (ord 55 0 + 37) := cc36.R
  have r37 : RO 325 (rowR (newC μ36 91) 55 0 (up (mR (newC μ36 91) 55 0) 55 (mC μ36 91))) (ord 55 0 + 37) [] := ((r36.new c36 e35 p35)).put m36
  have k37 : Kr 55 104 μ (rowR (newC μ36 91) 55 0 (up (mR (newC μ36 91) 55 0) 55 (mC μ36 91))) := ((k36.new 91)).R _
  have xo_37 : ∀ q, q ≠ 17 → mI (rowR (newC μ36 91) 55 0 (up (mR (newC μ36 91) 55 0) 55 (mC μ36 91))) 55 0 q = 0 := by intro q hq1; rw [mI_rowR]; rw [mI_newC, if_neg (by omega)]; exact xo_36 q hq1
  have xp_37 : mI (rowR (newC μ36 91) 55 0 (up (mR (newC μ36 91) 55 0) 55 (mC μ36 91))) 55 0 17 = (-1 : Int32) := by rw [mI_rowR]; rw [mI_newC, if_neg (by omega)]; exact xp_36
  generalize (rowR (newC μ36 91) 55 0 (up (mR (newC μ36 91) 55 0) 55 (mC μ36 91))) = μ37 at *
  have m37 := (c37.new e36).1
  have cc37 := (c37.new e36).2
  refine rn_ok ckx_154 (cut := cux_154) 1 _ _ _ _ _ _ (And.intro (by decide) (And.intro (by decide) (And.intro (by decide) (And.intro (by decide) (And.intro (by decide) (And.intro (by decide) (And.intro (by decide) (And.intro (by decide) (And.intro (c37.due e36 (fun _ => (by first | exact Or.inl rfl | exact Or.inr (by decide)))) (And.intro (by decide) (And.intro (by decide) (And.intro (by decide) (And.intro (by decide) (And.intro rfl (And.intro (cc37.old hN (by omega)) (And.intro rfl (And.intro (Or.inr (by decide)) (And.intro (Nat.lt_of_le_of_lt (Nat.le_of_eq m37) (cc37.old e36 (by omega))) ?_))))))))))))))))))
  show Wp 1 2 154 312 [(0, vr 55 0)] [] (rowR (newC μ37 92) 55 0 (up (mR (newC μ37 92) 55 0) 58 (mC μ37 92))) 37 9332 Q
  have c38 : Cnt (rowR (newC μ37 92) 55 0 (up (mR (newC μ37 92) 55 0) 58 (mC μ37 92))) (ord 55 0 + 38) := cc37.R
  have r38 : RO 325 (rowR (newC μ37 92) 55 0 (up (mR (newC μ37 92) 55 0) 58 (mC μ37 92))) (ord 55 0 + 38) [] := ((r37.new c37 e36 p36)).put m37
  have k38 : Kr 55 104 μ (rowR (newC μ37 92) 55 0 (up (mR (newC μ37 92) 55 0) 58 (mC μ37 92))) := ((k37.new 92)).R _
  have xo_38 : ∀ q, q ≠ 17 → mI (rowR (newC μ37 92) 55 0 (up (mR (newC μ37 92) 55 0) 58 (mC μ37 92))) 55 0 q = 0 := by intro q hq1; rw [mI_rowR]; rw [mI_newC, if_neg (by omega)]; exact xo_37 q hq1
  have xp_38 : mI (rowR (newC μ37 92) 55 0 (up (mR (newC μ37 92) 55 0) 58 (mC μ37 92))) 55 0 17 = (-1 : Int32) := by rw [mI_rowR]; rw [mI_newC, if_neg (by omega)]; exact xp_37
  generalize (rowR (newC μ37 92) 55 0 (up (mR (newC μ37 92) 55 0) 58 (mC μ37 92))) = μ38 at *
  have m38 := (c38.new e37).1
  have cc38 := (c38.new e37).2
  refine rn_ok ckx_154 (cut := cux_154) 1 _ _ _ _ _ _ (And.intro (by decide) (And.intro (by decide) (And.intro (by decide) (And.intro (by decide) (And.intro (by decide) (And.intro (by decide) (And.intro (by decide) (And.intro (by decide) (And.intro (c38.due e37 (fun _ => (by first | exact Or.inl rfl | exact Or.inr (by decide)))) (And.intro (by decide) (And.intro (by decide) (And.intro (by decide) (And.intro (by decide) (And.intro rfl (And.intro (cc38.old hN (by omega)) (And.intro rfl (And.intro (Or.inr (by decide)) (And.intro (Nat.lt_of_le_of_lt (Nat.le_of_eq m38) (cc38.old e37 (by omega))) ?_))))))))))))))))))
  show Wp 1 2 154 320 [(0, vr 55 0)] [] (rowR (newC μ38 93) 55 0 (up (mR (newC μ38 93) 55 0) 59 (mC μ38 93))) 38 9352 Q
  have c39 : Cnt (rowR (newC μ38 93) 55 0 (up (mR (newC μ38 93) 55 0) 59 (mC μ38 93))) (ord 55 0 + 39) := cc38.R
  have r39 : RO 325 (rowR (newC μ38 93) 55 0 (up (mR (newC μ38 93) 55 0) 59 (mC μ38 93))) (ord 55 0 + 39) [] := ((r38.new c38 e37 p37)).put m38
  have k39 : Kr 55 104 μ (rowR (newC μ38 93) 55 0 (up (mR (newC μ38 93) 55 0) 59 (mC μ38 93))) := ((k38.new 93)).R _
  have xo_39 : ∀ q, q ≠ 17 → mI (rowR (newC μ38 93) 55 0 (up (mR (newC μ38 93) 55 0) 59 (mC μ38 93))) 55 0 q = 0 := by intro q hq1; rw [mI_rowR]; rw [mI_newC, if_neg (by omega)]; exact xo_38 q hq1
  have xp_39 : mI (rowR (newC μ38 93) 55 0 (up (mR (newC μ38 93) 55 0) 59 (mC μ38 93))) 55 0 17 = (-1 : Int32) := by rw [mI_rowR]; rw [mI_newC, if_neg (by omega)]; exact xp_38
  generalize (rowR (newC μ38 93) 55 0 (up (mR (newC μ38 93) 55 0) 59 (mC μ38 93))) = μ39 at *
  have m39 := (c39.new e38).1
  have cc39 := (c39.new e38).2
  refine rn_ok ckx_154 (cut := cux_154) 1 _ _ _ _ _ _ (And.intro (by decide) (And.intro (by decide) (And.intro (by decide) (And.intro (by decide) (And.intro (by decide) (And.intro (by decide) (And.intro (by decide) (And.intro (by decide) (And.intro (c39.due e38 (fun _ => (by first | exact Or.inl rfl | exact Or.inr (by decide)))) (And.intro (by decide) (And.intro (by decide) (And.intro (by decide) (And.intro (by decide) (And.intro rfl (And.intro (cc39.old hN (by omega)) (And.intro rfl (And.intro (Or.inr (by decide)) (And.intro (Nat.lt_of_le_of_lt (Nat.le_of_eq m39) (cc39.old e38 (by omega))) ?_))))))))))))))))))
  show Wp 1 2 154 328 [(0, vr 55 0)] [] (rowR (newC μ39 94) 55 0 (up (mR (newC μ39 94) 55 0) 60 (mC μ39 94))) 39 9358 Q
  have c40 : Cnt (rowR (newC μ39 94) 55 0 (up (mR (newC μ39 94) 55 0) 60 (mC μ39 94))) (ord 55 0 + 40) := cc39.R
  have r40 : RO 325 (rowR (newC μ39 94) 55 0 (up (mR (newC μ39 94) 55 0) 60 (mC μ39 94))) (ord 55 0 + 40) [] := ((r39.new c39 e38 p38)).put m39
  have k40 : Kr 55 104 μ (rowR (newC μ39 94) 55 0 (up (mR (newC μ39 94) 55 0) 60 (mC μ39 94))) := ((k39.new 94)).R _
  have xo_40 : ∀ q, q ≠ 17 → mI (rowR (newC μ39 94) 55 0 (up (mR (newC μ39 94) 55 0) 60 (mC μ39 94))) 55 0 q = 0 := by intro q hq1; rw [mI_rowR]; rw [mI_newC, if_neg (by omega)]; exact xo_39 q hq1
  have xp_40 : mI (rowR (newC μ39 94) 55 0 (up (mR (newC μ39 94) 55 0) 60 (mC μ39 94))) 55 0 17 = (-1 : Int32) := by rw [mI_rowR]; rw [mI_newC, if_neg (by omega)]; exact xp_39
  generalize (rowR (newC μ39 94) 55 0 (up (mR (newC μ39 94) 55 0) 60 (mC μ39 94))) = μ40 at *
  have m40 := (c40.new e39).1
  have cc40 := (c40.new e39).2
  refine rn_ok ckx_154 (cut := cux_154) 1 _ _ _ _ _ _ (And.intro (by decide) (And.intro (by decide) (And.intro (by decide) (And.intro (by decide) (And.intro (by decide) (And.intro (by decide) (And.intro (by decide) (And.intro (by decide) (And.intro (c40.due e39 (fun _ => (by first | exact Or.inl rfl | exact Or.inr (by decide)))) (And.intro (by decide) (And.intro (by decide) (And.intro (by decide) (And.intro (by decide) (And.intro rfl (And.intro (cc40.old hN (by omega)) (And.intro rfl (And.intro (Or.inr (by decide)) (And.intro (Nat.lt_of_le_of_lt (Nat.le_of_eq m40) (cc40.old e39 (by omega))) ?_))))))))))))))))))
  show Wp 1 2 154 337 [(0, vr 55 0)] [] (rowR (newC μ40 95) 55 0 (up (mR (newC μ40 95) 55 0) 62 (mC μ40 95))) 40 10678 Q
  have c41 : Cnt (rowR (newC μ40 95) 55 0 (up (mR (newC μ40 95) 55 0) 62 (mC μ40 95))) (ord 55 0 + 41) := cc40.R
  have r41 : RO 325 (rowR (newC μ40 95) 55 0 (up (mR (newC μ40 95) 55 0) 62 (mC μ40 95))) (ord 55 0 + 41) [] := ((r40.new c40 e39 p39)).put m40
  have k41 : Kr 55 104 μ (rowR (newC μ40 95) 55 0 (up (mR (newC μ40 95) 55 0) 62 (mC μ40 95))) := ((k40.new 95)).R _
  have xo_41 : ∀ q, q ≠ 17 → mI (rowR (newC μ40 95) 55 0 (up (mR (newC μ40 95) 55 0) 62 (mC μ40 95))) 55 0 q = 0 := by intro q hq1; rw [mI_rowR]; rw [mI_newC, if_neg (by omega)]; exact xo_40 q hq1
  have xp_41 : mI (rowR (newC μ40 95) 55 0 (up (mR (newC μ40 95) 55 0) 62 (mC μ40 95))) 55 0 17 = (-1 : Int32) := by rw [mI_rowR]; rw [mI_newC, if_neg (by omega)]; exact xp_40
  generalize (rowR (newC μ40 95) 55 0 (up (mR (newC μ40 95) 55 0) 62 (mC μ40 95))) = μ41 at *
  have m41 := (c41.new e40).1
  have cc41 := (c41.new e40).2
  refine rn_ok ckx_154 (cut := cux_154) 1 _ _ _ _ _ _ (And.intro (by decide) (And.intro (by decide) (And.intro (by decide) (And.intro (by decide) (And.intro (by decide) (And.intro (by decide) (And.intro (by decide) (And.intro (by decide) (And.intro (c41.due e40 (fun _ => (by first | exact Or.inl rfl | exact Or.inr (by decide)))) (And.intro (by decide) (And.intro (by decide) (And.intro (by decide) (And.intro (by decide) (And.intro rfl (And.intro (cc41.old hN (by omega)) (And.intro rfl (And.intro (Or.inr (by decide)) (And.intro (Nat.lt_of_le_of_lt (Nat.le_of_eq m41) (cc41.old e40 (by omega))) ?_))))))))))))))))))
  show Wp 1 2 154 345 [(0, vr 55 0)] [] (rowR (newC μ41 96) 55 0 (up (mR (newC μ41 96) 55 0) 63 (mC μ41 96))) 41 10684 Q
  have c42 : Cnt (rowR (newC μ41 96) 55 0 (up (mR (newC μ41 96) 55 0) 63 (mC μ41 96))) (ord 55 0 + 42) := cc41.R
  have r42 : RO 325 (rowR (newC μ41 96) 55 0 (up (mR (newC μ41 96) 55 0) 63 (mC μ41 96))) (ord 55 0 + 42) [] := ((r41.new c41 e40 p40)).put m41
  have k42 : Kr 55 104 μ (rowR (newC μ41 96) 55 0 (up (mR (newC μ41 96) 55 0) 63 (mC μ41 96))) := ((k41.new 96)).R _
  have xo_42 : ∀ q, q ≠ 17 → mI (rowR (newC μ41 96) 55 0 (up (mR (newC μ41 96) 55 0) 63 (mC μ41 96))) 55 0 q = 0 := by intro q hq1; rw [mI_rowR]; rw [mI_newC, if_neg (by omega)]; exact xo_41 q hq1
  have xp_42 : mI (rowR (newC μ41 96) 55 0 (up (mR (newC μ41 96) 55 0) 63 (mC μ41 96))) 55 0 17 = (-1 : Int32) := by rw [mI_rowR]; rw [mI_newC, if_neg (by omega)]; exact xp_41
  generalize (rowR (newC μ41 96) 55 0 (up (mR (newC μ41 96) 55 0) 63 (mC μ41 96))) = μ42 at *
  have m42 := (c42.new e41).1
  have cc42 := (c42.new e41).2
  refine rn_ok ckx_154 (cut := cux_154) 1 _ _ _ _ _ _ (And.intro (by decide) (And.intro (by decide) (And.intro (by decide) (And.intro (by decide) (And.intro (by decide) (And.intro (by decide) (And.intro (by decide) (And.intro (by decide) (And.intro (c42.due e41 (fun _ => (by first | exact Or.inl rfl | exact Or.inr (by decide)))) (And.intro (by decide) (And.intro (by decide) (And.intro (by decide) (And.intro (by decide) (And.intro rfl (And.intro (cc42.old hN (by omega)) (And.intro rfl (And.intro (Or.inr (by decide)) (And.intro (Nat.lt_of_le_of_lt (Nat.le_of_eq m42) (cc42.old e41 (by omega))) ?_))))))))))))))))))
  show Wp 1 2 154 352 [(0, vr 55 0)] [] (rowR (newC μ42 97) 55 0 (up (mR (newC μ42 97) 55 0) 66 (mC μ42 97))) 42 10687 Q
  have c43 : Cnt (rowR (newC μ42 97) 55 0 (up (mR (newC μ42 97) 55 0) 66 (mC μ42 97))) (ord 55 0 + 43) := cc42.R
  have r43 : RO 325 (rowR (newC μ42 97) 55 0 (up (mR (newC μ42 97) 55 0) 66 (mC μ42 97))) (ord 55 0 + 43) [] := ((r42.new c42 e41 p41)).put m42
  have k43 : Kr 55 104 μ (rowR (newC μ42 97) 55 0 (up (mR (newC μ42 97) 55 0) 66 (mC μ42 97))) := ((k42.new 97)).R _
  have xo_43 : ∀ q, q ≠ 17 → mI (rowR (newC μ42 97) 55 0 (up (mR (newC μ42 97) 55 0) 66 (mC μ42 97))) 55 0 q = 0 := by intro q hq1; rw [mI_rowR]; rw [mI_newC, if_neg (by omega)]; exact xo_42 q hq1
  have xp_43 : mI (rowR (newC μ42 97) 55 0 (up (mR (newC μ42 97) 55 0) 66 (mC μ42 97))) 55 0 17 = (-1 : Int32) := by rw [mI_rowR]; rw [mI_newC, if_neg (by omega)]; exact xp_42
  generalize (rowR (newC μ42 97) 55 0 (up (mR (newC μ42 97) 55 0) 66 (mC μ42 97))) = μ43 at *
  have m43 := (c43.new e42).1
  have cc43 := (c43.new e42).2
  refine rn_ok ckx_154 (cut := cux_154) 1 _ _ _ _ _ _ (And.intro (by decide) (And.intro (by decide) (And.intro (by decide) (And.intro (by decide) (And.intro (by decide) (And.intro (by decide) (And.intro (by decide) (And.intro (by decide) (And.intro (c43.due e42 (fun _ => (by first | exact Or.inl rfl | exact Or.inr (by decide)))) (And.intro (by decide) (And.intro (by decide) (And.intro (by decide) (And.intro (by decide) (And.intro rfl (And.intro (cc43.old hN (by omega)) (And.intro rfl (And.intro (Or.inr (by decide)) (And.intro (Nat.lt_of_le_of_lt (Nat.le_of_eq m43) (cc43.old e42 (by omega))) ?_))))))))))))))))))
  show Wp 1 2 154 360 [(0, vr 55 0)] [] (rowR (newC μ43 98) 55 0 (up (mR (newC μ43 98) 55 0) 68 (mC μ43 98))) 43 10707 Q
  have c44 : Cnt (rowR (newC μ43 98) 55 0 (up (mR (newC μ43 98) 55 0) 68 (mC μ43 98))) (ord 55 0 + 44) := cc43.R
  have r44 : RO 325 (rowR (newC μ43 98) 55 0 (up (mR (newC μ43 98) 55 0) 68 (mC μ43 98))) (ord 55 0 + 44) [] := ((r43.new c43 e42 p42)).put m43
  have k44 : Kr 55 104 μ (rowR (newC μ43 98) 55 0 (up (mR (newC μ43 98) 55 0) 68 (mC μ43 98))) := ((k43.new 98)).R _
  have xo_44 : ∀ q, q ≠ 17 → mI (rowR (newC μ43 98) 55 0 (up (mR (newC μ43 98) 55 0) 68 (mC μ43 98))) 55 0 q = 0 := by intro q hq1; rw [mI_rowR]; rw [mI_newC, if_neg (by omega)]; exact xo_43 q hq1
  have xp_44 : mI (rowR (newC μ43 98) 55 0 (up (mR (newC μ43 98) 55 0) 68 (mC μ43 98))) 55 0 17 = (-1 : Int32) := by rw [mI_rowR]; rw [mI_newC, if_neg (by omega)]; exact xp_43
  generalize (rowR (newC μ43 98) 55 0 (up (mR (newC μ43 98) 55 0) 68 (mC μ43 98))) = μ44 at *
  have m44 := (c44.new e43).1
  have cc44 := (c44.new e43).2
  refine rn_ok ckx_154 (cut := cux_154) 1 _ _ _ _ _ _ (And.intro (by decide) (And.intro (by decide) (And.intro (by decide) (And.intro (by decide) (And.intro (by decide) (And.intro (by decide) (And.intro (by decide) (And.intro (by decide) (And.intro (c44.due e43 (fun _ => (by first | exact Or.inl rfl | exact Or.inr (by decide)))) (And.intro (by decide) (And.intro (by decide) (And.intro (by decide) (And.intro (by decide) (And.intro rfl (And.intro (cc44.old hN (by omega)) (And.intro rfl (And.intro (Or.inr (by decide)) (And.intro (Nat.lt_of_le_of_lt (Nat.le_of_eq m44) (cc44.old e43 (by omega))) ?_))))))))))))))))))
  show Wp 1 2 154 368 [(0, vr 55 0)] [] (rowR (newC μ44 99) 55 0 (up (mR (newC μ44 99) 55 0) 69 (mC μ44 99))) 44 10727 Q
  have c45 : Cnt (rowR (newC μ44 99) 55 0 (up (mR (newC μ44 99) 55 0) 69 (mC μ44 99))) (ord 55 0 + 45) := cc44.R
  have r45 : RO 325 (rowR (newC μ44 99) 55 0 (up (mR (newC μ44 99) 55 0) 69 (mC μ44 99))) (ord 55 0 + 45) [] := ((r44.new c44 e43 p43)).put m44
  have k45 : Kr 55 104 μ (rowR (newC μ44 99) 55 0 (up (mR (newC μ44 99) 55 0) 69 (mC μ44 99))) := ((k44.new 99)).R _
  have xo_45 : ∀ q, q ≠ 17 → mI (rowR (newC μ44 99) 55 0 (up (mR (newC μ44 99) 55 0) 69 (mC μ44 99))) 55 0 q = 0 := by intro q hq1; rw [mI_rowR]; rw [mI_newC, if_neg (by omega)]; exact xo_44 q hq1
  have xp_45 : mI (rowR (newC μ44 99) 55 0 (up (mR (newC μ44 99) 55 0) 69 (mC μ44 99))) 55 0 17 = (-1 : Int32) := by rw [mI_rowR]; rw [mI_newC, if_neg (by omega)]; exact xp_44
  generalize (rowR (newC μ44 99) 55 0 (up (mR (newC μ44 99) 55 0) 69 (mC μ44 99))) = μ45 at *
  have m45 := (c45.new e44).1
  have cc45 := (c45.new e44).2
  refine rn_ok ckx_154 (cut := cux_154) 1 _ _ _ _ _ _ (And.intro (by decide) (And.intro (by decide) (And.intro (by decide) (And.intro (by decide) (And.intro (by decide) (And.intro (by decide) (And.intro (by decide) (And.intro (by decide) (And.intro (c45.due e44 (fun _ => (by first | exact Or.inl rfl | exact Or.inr (by decide)))) (And.intro (by decide) (And.intro (by decide) (And.intro (by decide) (And.intro (by decide) (And.intro rfl (And.intro (cc45.old hN (by omega)) (And.intro rfl (And.intro (Or.inr (by decide)) (And.intro (Nat.lt_of_le_of_lt (Nat.le_of_eq m45) (cc45.old e44 (by omega))) ?_))))))))))))))))))
  show Wp 1 2 154 376 [(0, vr 55 0)] [] (rowR (newC μ45 100) 55 0 (up (mR (newC μ45 100) 55 0) 70 (mC μ45 100))) 45 10747 Q
  have c46 : Cnt (rowR (newC μ45 100) 55 0 (up (mR (newC μ45 100) 55 0) 70 (mC μ45 100))) (ord 55 0 + 46) := cc45.R
  have r46 : RO 325 (rowR (newC μ45 100) 55 0 (up (mR (newC μ45 100) 55 0) 70 (mC μ45 100))) (ord 55 0 + 46) [] := ((r45.new c45 e44 p44)).put m45
  have k46 : Kr 55 104 μ (rowR (newC μ45 100) 55 0 (up (mR (newC μ45 100) 55 0) 70 (mC μ45 100))) := ((k45.new 100)).R _
  have xo_46 : ∀ q, q ≠ 17 → mI (rowR (newC μ45 100) 55 0 (up (mR (newC μ45 100) 55 0) 70 (mC μ45 100))) 55 0 q = 0 := by intro q hq1; rw [mI_rowR]; rw [mI_newC, if_neg (by omega)]; exact xo_45 q hq1
  have xp_46 : mI (rowR (newC μ45 100) 55 0 (up (mR (newC μ45 100) 55 0) 70 (mC μ45 100))) 55 0 17 = (-1 : Int32) := by rw [mI_rowR]; rw [mI_newC, if_neg (by omega)]; exact xp_45
  generalize (rowR (newC μ45 100) 55 0 (up (mR (newC μ45 100) 55 0) 70 (mC μ45 100))) = μ46 at *
  have m46 := (c46.new e45).1
  have cc46 := (c46.new e45).2
  refine rn_ok ckx_154 (cut := cux_154) 1 _ _ _ _ _ _ (And.intro (by decide) (And.intro (by decide) (And.intro (by decide) (And.intro (by decide) (And.intro (by decide) (And.intro (by decide) (And.intro (by decide) (And.intro (by decide) (And.intro (c46.due e45 (fun _ => (by first | exact Or.inl rfl | exact Or.inr (by decide)))) (And.intro (by decide) (And.intro (by decide) (And.intro (by decide) (And.intro (by decide) (And.intro rfl (And.intro (cc46.old hN (by omega)) (And.intro rfl (And.intro (Or.inr (by decide)) (And.intro (Nat.lt_of_le_of_lt (Nat.le_of_eq m46) (cc46.old e45 (by omega))) ?_))))))))))))))))))
  show Wp 1 2 154 385 [(0, vr 55 0)] [] (rowR (newC μ46 101) 55 0 (up (mR (newC μ46 101) 55 0) 71 (mC μ46 101))) 46 10891 Q
  have c47 : Cnt (rowR (newC μ46 101) 55 0 (up (mR (newC μ46 101) 55 0) 71 (mC μ46 101))) (ord 55 0 + 47) := cc46.R
  have r47 : RO 325 (rowR (newC μ46 101) 55 0 (up (mR (newC μ46 101) 55 0) 71 (mC μ46 101))) (ord 55 0 + 47) [] := ((r46.new c46 e45 p45)).put m46
  have k47 : Kr 55 104 μ (rowR (newC μ46 101) 55 0 (up (mR (newC μ46 101) 55 0) 71 (mC μ46 101))) := ((k46.new 101)).R _
  have xo_47 : ∀ q, q ≠ 17 → mI (rowR (newC μ46 101) 55 0 (up (mR (newC μ46 101) 55 0) 71 (mC μ46 101))) 55 0 q = 0 := by intro q hq1; rw [mI_rowR]; rw [mI_newC, if_neg (by omega)]; exact xo_46 q hq1
  have xp_47 : mI (rowR (newC μ46 101) 55 0 (up (mR (newC μ46 101) 55 0) 71 (mC μ46 101))) 55 0 17 = (-1 : Int32) := by rw [mI_rowR]; rw [mI_newC, if_neg (by omega)]; exact xp_46
  generalize (rowR (newC μ46 101) 55 0 (up (mR (newC μ46 101) 55 0) 71 (mC μ46 101))) = μ47 at *
  have m47 := (c47.new e46).1
  have cc47 := (c47.new e46).2
  refine rn_ok ckx_154 (cut := cux_154) 1 _ _ _ _ _ _ (And.intro (by decide) (And.intro (by decide) (And.intro (by decide) (And.intro (by decide) (And.intro (by decide) (And.intro (by decide) (And.intro (by decide) (And.intro (by decide) (And.intro (c47.due e46 (fun _ => (by first | exact Or.inl rfl | exact Or.inr (by decide)))) (And.intro (by decide) (And.intro (by decide) (And.intro (by decide) (And.intro (by decide) (And.intro rfl (And.intro (cc47.old hN (by omega)) (And.intro rfl (And.intro (Or.inr (by decide)) (And.intro (Nat.lt_of_le_of_lt (Nat.le_of_eq m47) (cc47.old e46 (by omega))) ?_))))))))))))))))))
  show Wp 1 2 154 392 [(0, vr 55 0)] [] (rowR (newC μ47 102) 55 0 (up (mR (newC μ47 102) 55 0) 72 (mC μ47 102))) 47 10894 Q
  have c48 : Cnt (rowR (newC μ47 102) 55 0 (up (mR (newC μ47 102) 55 0) 72 (mC μ47 102))) (ord 55 0 + 48) := cc47.R
  have r48 : RO 325 (rowR (newC μ47 102) 55 0 (up (mR (newC μ47 102) 55 0) 72 (mC μ47 102))) (ord 55 0 + 48) [] := ((r47.new c47 e46 p46)).put m47
  have k48 : Kr 55 104 μ (rowR (newC μ47 102) 55 0 (up (mR (newC μ47 102) 55 0) 72 (mC μ47 102))) := ((k47.new 102)).R _
  have xo_48 : ∀ q, q ≠ 17 → mI (rowR (newC μ47 102) 55 0 (up (mR (newC μ47 102) 55 0) 72 (mC μ47 102))) 55 0 q = 0 := by intro q hq1; rw [mI_rowR]; rw [mI_newC, if_neg (by omega)]; exact xo_47 q hq1
  have xp_48 : mI (rowR (newC μ47 102) 55 0 (up (mR (newC μ47 102) 55 0) 72 (mC μ47 102))) 55 0 17 = (-1 : Int32) := by rw [mI_rowR]; rw [mI_newC, if_neg (by omega)]; exact xp_47
  have xs_48 : ∀ q, mI (rowR (newC μ47 102) 55 0 (up (mR (newC μ47 102) 55 0) 72 (mC μ47 102))) 102 0 q = 0 := by intro q; show (if 102 = 102 ∧ 0 = mC _ 102 then (fun _ => (0 : Int32)) else _) q = 0; rw [if_pos ⟨rfl, m47.symm⟩]
  generalize (rowR (newC μ47 102) 55 0 (up (mR (newC μ47 102) 55 0) 72 (mC μ47 102))) = μ48 at *
  have m48 := (c48.new e47).1
  have cc48 := (c48.new e47).2
  refine rn_ok ckx_154 (cut := cux_154) 1 _ _ _ _ _ _ (And.intro (by decide) (And.intro (by decide) (And.intro (by decide) (And.intro (by decide) (And.intro (by decide) (And.intro (by decide) (And.intro (by decide) (And.intro (by decide) (And.intro (c48.due e47 (fun _ => (by first | exact Or.inl rfl | exact Or.inr (by decide)))) (And.intro (by decide) (And.intro (by decide) (And.intro (by decide) (And.intro (by decide) (And.intro rfl (And.intro (cc48.old hN (by omega)) (And.intro rfl (And.intro (Or.inr (by decide)) (And.intro (Nat.lt_of_le_of_lt (Nat.le_of_eq m48) (cc48.old e47 (by omega))) ?_))))))))))))))))))
  show Wp 1 2 154 400 [(0, vr 55 0)] [] (rowR (newC μ48 103) 55 0 (up (mR (newC μ48 103) 55 0) 73 (mC μ48 103))) 48 10993 Q
  have c49 : Cnt (rowR (newC μ48 103) 55 0 (up (mR (newC μ48 103) 55 0) 73 (mC μ48 103))) (ord 55 0 + 49) := cc48.R
  have r49 : RO 325 (rowR (newC μ48 103) 55 0 (up (mR (newC μ48 103) 55 0) 73 (mC μ48 103))) (ord 55 0 + 49) [] := ((r48.new c48 e47 p47)).put m48
  have k49 : Kr 55 104 μ (rowR (newC μ48 103) 55 0 (up (mR (newC μ48 103) 55 0) 73 (mC μ48 103))) := ((k48.new 103)).R _
  have xo_49 : ∀ q, q ≠ 17 → mI (rowR (newC μ48 103) 55 0 (up (mR (newC μ48 103) 55 0) 73 (mC μ48 103))) 55 0 q = 0 := by intro q hq1; rw [mI_rowR]; rw [mI_newC, if_neg (by omega)]; exact xo_48 q hq1
  have xp_49 : mI (rowR (newC μ48 103) 55 0 (up (mR (newC μ48 103) 55 0) 73 (mC μ48 103))) 55 0 17 = (-1 : Int32) := by rw [mI_rowR]; rw [mI_newC, if_neg (by omega)]; exact xp_48
  have xs_49 : ∀ q, mI (rowR (newC μ48 103) 55 0 (up (mR (newC μ48 103) 55 0) 73 (mC μ48 103))) 102 0 q = 0 := by intro q; rw [mI_rowR]; rw [mI_newC, if_neg (by omega)]; exact xs_48 q
  generalize (rowR (newC μ48 103) 55 0 (up (mR (newC μ48 103) 55 0) 73 (mC μ48 103))) = μ49 at *
  exact hq _ c49 r49 k49 xo_49 xp_49 xs_49
