set_option maxRecDepth 20000 in
set_option maxHeartbeats 8000000 in
theorem sf_X9_branchMany {S : bT9} (hJ : K9 S) {a1 : Int32} {Q : Int32 → Prop} (hp0 : 0 ≤ a1.toInt) (hp1 : a1.toInt < (b9g_nodeMany S).toInt) (hq : ∀ r : Int32, (0 ≤ r.toInt) → (r.toInt ≤ (b9g_nodeLeaves S a1.toNatClampNeg).toInt) → (r.toInt ≤ 64) → Q r) : wp_X9_branchMany S a1 Q := by
  unfold wp_X9_branchMany
  have jf1 := K9g_nodeMany hJ
  have jf2 : (-4 ≤ ((b9g_now S) 1).toInt ∧ ((b9g_now S) 1).toInt ≤ 4) ∧ (-3 ≤ ((b9g_now S) 4).toInt ∧ ((b9g_now S) 4).toInt ≤ 252) ∧ (0 ≤ ((b9g_now S) 8).toInt ∧ ((b9g_now S) 8).toInt ≤ 64) ∧ (0 ≤ ((b9g_now S) 9).toInt ∧ ((b9g_now S) 9).toInt ≤ 64) ∧ (0 ≤ ((b9g_now S) 10).toInt ∧ ((b9g_now S) 10).toInt ≤ 16) ∧ (0 ≤ ((b9g_now S) 12).toInt ∧ ((b9g_now S) 12).toInt ≤ 8) := K9g_now hJ
  have rga1 := pt_rg a1
  have jx := ND_at (K9g_ND hJ) hp0 hp1
  refine ⟨pt_in (by (try simp (disch := first | ((try simp (disch := first | ((try simp only [pn]) <;> omega) | fail) only [pn, pq]) <;> omega) | fail) only [pn, pq]) <;> (intros; (try simp (disch := first | ((try simp (disch := first | ((try simp only [pn]) <;> omega) | fail) only [pn, pq]) <;> omega) | fail) only [pn, pq]) <;> omega)) (by (try simp (disch := first | ((try simp (disch := first | ((try simp only [pn]) <;> omega) | fail) only [pn, pq]) <;> omega) | fail) only [pn, pq]) <;> (intros; (try simp (disch := first | ((try simp (disch := first | ((try simp only [pn]) <;> omega) | fail) only [pn, pq]) <;> omega) | fail) only [pn, pq]) <;> omega)), ?_⟩
  have jr3 := ND_at (K9g_ND hJ) (x := a1) (by (try simp (disch := first | ((try simp (disch := first | ((try simp only [pn]) <;> omega) | fail) only [pn, pq]) <;> omega) | fail) only [pn, pq]) <;> (intros; (try simp (disch := first | ((try simp (disch := first | ((try simp only [pn]) <;> omega) | fail) only [pn, pq]) <;> omega) | fail) only [pn, pq]) <;> omega)) (by (try simp (disch := first | ((try simp (disch := first | ((try simp only [pn]) <;> omega) | fail) only [pn, pq]) <;> omega) | fail) only [pn, pq]) <;> (intros; (try simp (disch := first | ((try simp (disch := first | ((try simp only [pn]) <;> omega) | fail) only [pn, pq]) <;> omega) | fail) only [pn, pq]) <;> omega))
  try simp (disch := first | ((try simp (disch := first | ((try simp only [pn]) <;> omega) | fail) only [pn, pq]) <;> omega) | fail) only [pn, pq] at jr3
  refine ⟨fun n x1q1 x2q1 x3q1 => (x1q1 = a1) ∧ ((b9g_nodeLeaf S (x1q1).toNatClampNeg).toInt ≤ (x3q1).toInt) ∧ ((x3q1).toInt ≤ (b9g_nodeLeaf S (x1q1).toNatClampNeg).toInt + (b9g_nodeLeaves S (x1q1).toNatClampNeg).toInt) ∧ (0 ≤ (x2q1).toInt) ∧ ((x2q1).toInt ≤ (x3q1).toInt - (b9g_nodeLeaf S (x1q1).toNatClampNeg).toInt) ∧ n = ((b9g_nodeLeaf S (x1q1).toNatClampNeg).toInt + (b9g_nodeLeaves S (x1q1).toNatClampNeg).toInt - (x3q1).toInt).toNat, ⟨_, rfl, (by (try simp (disch := first | ((try simp (disch := first | ((try simp only [pn]) <;> omega) | fail) only [pn, pq]) <;> omega) | fail) only [pn, pq]) <;> (intros; (try simp (disch := first | ((try simp (disch := first | ((try simp only [pn]) <;> omega) | fail) only [pn, pq]) <;> omega) | fail) only [pn, pq]) <;> omega)), (by (try simp (disch := first | ((try simp (disch := first | ((try simp only [pn]) <;> omega) | fail) only [pn, pq]) <;> omega) | fail) only [pn, pq]) <;> (intros; (try simp (disch := first | ((try simp (disch := first | ((try simp only [pn]) <;> omega) | fail) only [pn, pq]) <;> omega) | fail) only [pn, pq]) <;> omega)), (by (try simp (disch := first | ((try simp (disch := first | ((try simp only [pn]) <;> omega) | fail) only [pn, pq]) <;> omega) | fail) only [pn, pq]) <;> (intros; (try simp (disch := first | ((try simp (disch := first | ((try simp only [pn]) <;> omega) | fail) only [pn, pq]) <;> omega) | fail) only [pn, pq]) <;> omega)), (by (try simp (disch := first | ((try simp (disch := first | ((try simp only [pn]) <;> omega) | fail) only [pn, pq]) <;> omega) | fail) only [pn, pq]) <;> (intros; (try simp (disch := first | ((try simp (disch := first | ((try simp only [pn]) <;> omega) | fail) only [pn, pq]) <;> omega) | fail) only [pn, pq]) <;> omega)), rfl⟩, ?_⟩
  rintro n2 x1q1 x2q1 x3q1 ⟨hkq1_0, hiq1_0, hiq1_1, hiq1_2, hiq1_3, hn2⟩
  subst hkq1_0
  have rgx1q1 := pt_rg x1q1
  have rgx2q1 := pt_rg x2q1
  have rgx3q1 := pt_rg x3q1
  unfold wp_X9_branchMany_9b
  refine sf_X9_lastOf hJ (by (try simp (disch := first | ((try simp (disch := first | ((try simp only [pn]) <;> omega) | fail) only [pn, pq]) <;> omega) | fail) only [pn, pq]) <;> (intros; (try simp (disch := first | ((try simp (disch := first | ((try simp only [pn]) <;> omega) | fail) only [pn, pq]) <;> omega) | fail) only [pn, pq]) <;> omega)) (by (try simp (disch := first | ((try simp (disch := first | ((try simp only [pn]) <;> omega) | fail) only [pn, pq]) <;> omega) | fail) only [pn, pq]) <;> (intros; (try simp (disch := first | ((try simp (disch := first | ((try simp only [pn]) <;> omega) | fail) only [pn, pq]) <;> omega) | fail) only [pn, pq]) <;> omega)) (fun r3 hr3_0 hr3_1 => ?_)
  have rgr3 := pt_rg r3
  try simp (disch := first | ((try simp (disch := first | ((try simp only [pn]) <;> omega) | fail) only [pn, pq]) <;> omega) | fail) only [pn, pq] at hr3_0
  try simp (disch := first | ((try simp (disch := first | ((try simp only [pn]) <;> omega) | fail) only [pn, pq]) <;> omega) | fail) only [pn, pq] at hr3_1
  refine ⟨fun c5 => ?_, fun c5 => ?_⟩
  · try simp (disch := first | ((try simp (disch := first | ((try simp only [pn]) <;> omega) | fail) only [pn, pq]) <;> omega) | fail) only [pn, pq] at c5
    exact hq _ (by (try simp (disch := first | ((try simp (disch := first | ((try simp only [pn]) <;> omega) | fail) only [pn, pq]) <;> omega) | fail) only [pn, pq]) <;> (intros; (try simp (disch := first | ((try simp (disch := first | ((try simp only [pn]) <;> omega) | fail) only [pn, pq]) <;> omega) | fail) only [pn, pq]) <;> omega)) (by (try simp (disch := first | ((try simp (disch := first | ((try simp only [pn]) <;> omega) | fail) only [pn, pq]) <;> omega) | fail) only [pn, pq]) <;> (intros; (try simp (disch := first | ((try simp (disch := first | ((try simp only [pn]) <;> omega) | fail) only [pn, pq]) <;> omega) | fail) only [pn, pq]) <;> omega)) (by (try simp (disch := first | ((try simp (disch := first | ((try simp only [pn]) <;> omega) | fail) only [pn, pq]) <;> omega) | fail) only [pn, pq]) <;> (intros; (try simp (disch := first | ((try simp (disch := first | ((try simp only [pn]) <;> omega) | fail) only [pn, pq]) <;> omega) | fail) only [pn, pq]) <;> omega))
  · try simp (disch := first | ((try simp (disch := first | ((try simp only [pn]) <;> omega) | fail) only [pn, pq]) <;> omega) | fail) only [pn, pq] at c5
    refine sf_X9_isBranch hJ (by (try simp (disch := first | ((try simp (disch := first | ((try simp only [pn]) <;> omega) | fail) only [pn, pq]) <;> omega) | fail) only [pn, pq]) <;> (intros; (try simp (disch := first | ((try simp (disch := first | ((try simp only [pn]) <;> omega) | fail) only [pn, pq]) <;> omega) | fail) only [pn, pq]) <;> omega)) (by (try simp (disch := first | ((try simp (disch := first | ((try simp only [pn]) <;> omega) | fail) only [pn, pq]) <;> omega) | fail) only [pn, pq]) <;> (intros; (try simp (disch := first | ((try simp (disch := first | ((try simp only [pn]) <;> omega) | fail) only [pn, pq]) <;> omega) | fail) only [pn, pq]) <;> omega)) (by (try simp (disch := first | ((try simp (disch := first | ((try simp only [pn]) <;> omega) | fail) only [pn, pq]) <;> omega) | fail) only [pn, pq]) <;> (intros; (try simp (disch := first | ((try simp (disch := first | ((try simp only [pn]) <;> omega) | fail) only [pn, pq]) <;> omega) | fail) only [pn, pq]) <;> omega)) (by (try simp (disch := first | ((try simp (disch := first | ((try simp only [pn]) <;> omega) | fail) only [pn, pq]) <;> omega) | fail) only [pn, pq]) <;> (intros; (try simp (disch := first | ((try simp (disch := first | ((try simp only [pn]) <;> omega) | fail) only [pn, pq]) <;> omega) | fail) only [pn, pq]) <;> omega)) (fun r6 hzr6 hr6_0 => ?_)
    try simp (disch := first | ((try simp (disch := first | ((try simp only [pn]) <;> omega) | fail) only [pn, pq]) <;> omega) | fail) only [pn, pq] at hr6_0
    refine ⟨fun c8 => ?_, fun c8 => ?_⟩
    · try simp (disch := first | ((try simp (disch := first | ((try simp only [pn]) <;> omega) | fail) only [pn, pq]) <;> omega) | fail) only [pn, pq] at c8
      unfold wp_X9_branchMany_31
      refine ⟨_, ?_, ?_, ?_, ?_, ?_, ?_, rfl⟩
      · (try simp (disch := first | ((try simp (disch := first | ((try simp only [pn]) <;> omega) | fail) only [pn, pq]) <;> omega) | fail) only [pn, pq]) <;> (intros; (try simp (disch := first | ((try simp (disch := first | ((try simp only [pn]) <;> omega) | fail) only [pn, pq]) <;> omega) | fail) only [pn, pq]) <;> omega)
      · first | rfl | assumption
      · (try simp (disch := first | ((try simp (disch := first | ((try simp only [pn]) <;> omega) | fail) only [pn, pq]) <;> omega) | fail) only [pn, pq]) <;> (intros; (try simp (disch := first | ((try simp (disch := first | ((try simp only [pn]) <;> omega) | fail) only [pn, pq]) <;> omega) | fail) only [pn, pq]) <;> omega)
      · (try simp (disch := first | ((try simp (disch := first | ((try simp only [pn]) <;> omega) | fail) only [pn, pq]) <;> omega) | fail) only [pn, pq]) <;> (intros; (try simp (disch := first | ((try simp (disch := first | ((try simp only [pn]) <;> omega) | fail) only [pn, pq]) <;> omega) | fail) only [pn, pq]) <;> omega)
      · (try simp (disch := first | ((try simp (disch := first | ((try simp only [pn]) <;> omega) | fail) only [pn, pq]) <;> omega) | fail) only [pn, pq]) <;> (intros; (try simp (disch := first | ((try simp (disch := first | ((try simp only [pn]) <;> omega) | fail) only [pn, pq]) <;> omega) | fail) only [pn, pq]) <;> omega)
      · (try simp (disch := first | ((try simp (disch := first | ((try simp only [pn]) <;> omega) | fail) only [pn, pq]) <;> omega) | fail) only [pn, pq]) <;> (intros; (try simp (disch := first | ((try simp (disch := first | ((try simp only [pn]) <;> omega) | fail) only [pn, pq]) <;> omega) | fail) only [pn, pq]) <;> omega)
    · try simp (disch := first | ((try simp (disch := first | ((try simp only [pn]) <;> omega) | fail) only [pn, pq]) <;> omega) | fail) only [pn, pq] at c8
      unfold wp_X9_branchMany_31
      refine ⟨_, ?_, ?_, ?_, ?_, ?_, ?_, rfl⟩
      · (try simp (disch := first | ((try simp (disch := first | ((try simp only [pn]) <;> omega) | fail) only [pn, pq]) <;> omega) | fail) only [pn, pq]) <;> (intros; (try simp (disch := first | ((try simp (disch := first | ((try simp only [pn]) <;> omega) | fail) only [pn, pq]) <;> omega) | fail) only [pn, pq]) <;> omega)
      · first | rfl | assumption
      · (try simp (disch := first | ((try simp (disch := first | ((try simp only [pn]) <;> omega) | fail) only [pn, pq]) <;> omega) | fail) only [pn, pq]) <;> (intros; (try simp (disch := first | ((try simp (disch := first | ((try simp only [pn]) <;> omega) | fail) only [pn, pq]) <;> omega) | fail) only [pn, pq]) <;> omega)
      · (try simp (disch := first | ((try simp (disch := first | ((try simp only [pn]) <;> omega) | fail) only [pn, pq]) <;> omega) | fail) only [pn, pq]) <;> (intros; (try simp (disch := first | ((try simp (disch := first | ((try simp only [pn]) <;> omega) | fail) only [pn, pq]) <;> omega) | fail) only [pn, pq]) <;> omega)
      · (try simp (disch := first | ((try simp (disch := first | ((try simp only [pn]) <;> omega) | fail) only [pn, pq]) <;> omega) | fail) only [pn, pq]) <;> (intros; (try simp (disch := first | ((try simp (disch := first | ((try simp only [pn]) <;> omega) | fail) only [pn, pq]) <;> omega) | fail) only [pn, pq]) <;> omega)
      · (try simp (disch := first | ((try simp (disch := first | ((try simp only [pn]) <;> omega) | fail) only [pn, pq]) <;> omega) | fail) only [pn, pq]) <;> (intros; (try simp (disch := first | ((try simp (disch := first | ((try simp only [pn]) <;> omega) | fail) only [pn, pq]) <;> omega) | fail) only [pn, pq]) <;> omega)
set_option maxRecDepth 20000 in
set_option maxHeartbeats 8000000 in
theorem sf_X9_bitsOf {S : bT9} (hJ : K9 S) {a1 : Int32} {a2 : Int32} {Q : Int32 → Prop} (hp0 : 0 ≤ a1.toInt) (hp1 : a1.toInt < (b9g_nodeMany S).toInt) (hq : ∀ r : Int32, (0 ≤ r.toInt) → (r.toInt ≤ 715) → Q r) : wp_X9_bitsOf S a1 a2 Q := by
  unfold wp_X9_bitsOf
  have jf1 := K9g_nodeMany hJ
  have jf2 : (-4 ≤ ((b9g_now S) 1).toInt ∧ ((b9g_now S) 1).toInt ≤ 4) ∧ (-3 ≤ ((b9g_now S) 4).toInt ∧ ((b9g_now S) 4).toInt ≤ 252) ∧ (0 ≤ ((b9g_now S) 8).toInt ∧ ((b9g_now S) 8).toInt ≤ 64) ∧ (0 ≤ ((b9g_now S) 9).toInt ∧ ((b9g_now S) 9).toInt ≤ 64) ∧ (0 ≤ ((b9g_now S) 10).toInt ∧ ((b9g_now S) 10).toInt ≤ 16) ∧ (0 ≤ ((b9g_now S) 12).toInt ∧ ((b9g_now S) 12).toInt ≤ 8) := K9g_now hJ
  have rga1 := pt_rg a1
  have rga2 := pt_rg a2
  refine ⟨fun c1 => ?_, fun c1 => ?_⟩
  · try simp (disch := first | ((try simp (disch := first | ((try simp only [pn]) <;> omega) | fail) only [pn, pq]) <;> omega) | fail) only [pn, pq] at c1
    refine sf_X9_branchMany hJ (by (try simp (disch := first | ((try simp (disch := first | ((try simp only [pn]) <;> omega) | fail) only [pn, pq]) <;> omega) | fail) only [pn, pq]) <;> (intros; (try simp (disch := first | ((try simp (disch := first | ((try simp only [pn]) <;> omega) | fail) only [pn, pq]) <;> omega) | fail) only [pn, pq]) <;> omega)) (by (try simp (disch := first | ((try simp (disch := first | ((try simp only [pn]) <;> omega) | fail) only [pn, pq]) <;> omega) | fail) only [pn, pq]) <;> (intros; (try simp (disch := first | ((try simp (disch := first | ((try simp only [pn]) <;> omega) | fail) only [pn, pq]) <;> omega) | fail) only [pn, pq]) <;> omega)) (fun r2 hr2_0 hr2_1 hr2_2 => ?_)
    have rgr2 := pt_rg r2
    try simp (disch := first | ((try simp (disch := first | ((try simp only [pn]) <;> omega) | fail) only [pn, pq]) <;> omega) | fail) only [pn, pq] at hr2_0
    try simp (disch := first | ((try simp (disch := first | ((try simp only [pn]) <;> omega) | fail) only [pn, pq]) <;> omega) | fail) only [pn, pq] at hr2_1
    try simp (disch := first | ((try simp (disch := first | ((try simp only [pn]) <;> omega) | fail) only [pn, pq]) <;> omega) | fail) only [pn, pq] at hr2_2
    refine sf_X9_isNodeEnd hJ (by (try simp (disch := first | ((try simp (disch := first | ((try simp only [pn]) <;> omega) | fail) only [pn, pq]) <;> omega) | fail) only [pn, pq]) <;> (intros; (try simp (disch := first | ((try simp (disch := first | ((try simp only [pn]) <;> omega) | fail) only [pn, pq]) <;> omega) | fail) only [pn, pq]) <;> omega)) (by (try simp (disch := first | ((try simp (disch := first | ((try simp only [pn]) <;> omega) | fail) only [pn, pq]) <;> omega) | fail) only [pn, pq]) <;> (intros; (try simp (disch := first | ((try simp (disch := first | ((try simp only [pn]) <;> omega) | fail) only [pn, pq]) <;> omega) | fail) only [pn, pq]) <;> omega)) (fun r4 hzr4 hr4_0 => ?_)
    try simp (disch := first | ((try simp (disch := first | ((try simp only [pn]) <;> omega) | fail) only [pn, pq]) <;> omega) | fail) only [pn, pq] at hr4_0
    refine ⟨fun c6 => ?_, fun c6 => ?_⟩
    · try simp (disch := first | ((try simp (disch := first | ((try simp only [pn]) <;> omega) | fail) only [pn, pq]) <;> omega) | fail) only [pn, pq] at c6
      exact hq _ (by (try simp (disch := first | ((try simp (disch := first | ((try simp only [pn]) <;> omega) | fail) only [pn, pq]) <;> omega) | fail) only [pn, pq]) <;> (intros; (try simp (disch := first | ((try simp (disch := first | ((try simp only [pn]) <;> omega) | fail) only [pn, pq]) <;> omega) | fail) only [pn, pq]) <;> omega)) (by (try simp (disch := first | ((try simp (disch := first | ((try simp only [pn]) <;> omega) | fail) only [pn, pq]) <;> omega) | fail) only [pn, pq]) <;> (intros; (try simp (disch := first | ((try simp (disch := first | ((try simp only [pn]) <;> omega) | fail) only [pn, pq]) <;> omega) | fail) only [pn, pq]) <;> omega))
    · try simp (disch := first | ((try simp (disch := first | ((try simp only [pn]) <;> omega) | fail) only [pn, pq]) <;> omega) | fail) only [pn, pq] at c6
      exact hq _ (by (try simp (disch := first | ((try simp (disch := first | ((try simp only [pn]) <;> omega) | fail) only [pn, pq]) <;> omega) | fail) only [pn, pq]) <;> (intros; (try simp (disch := first | ((try simp (disch := first | ((try simp only [pn]) <;> omega) | fail) only [pn, pq]) <;> omega) | fail) only [pn, pq]) <;> omega)) (by (try simp (disch := first | ((try simp (disch := first | ((try simp only [pn]) <;> omega) | fail) only [pn, pq]) <;> omega) | fail) only [pn, pq]) <;> (intros; (try simp (disch := first | ((try simp (disch := first | ((try simp only [pn]) <;> omega) | fail) only [pn, pq]) <;> omega) | fail) only [pn, pq]) <;> omega))
  · try simp (disch := first | ((try simp (disch := first | ((try simp only [pn]) <;> omega) | fail) only [pn, pq]) <;> omega) | fail) only [pn, pq] at c1
    exact hq _ (by (try simp (disch := first | ((try simp (disch := first | ((try simp only [pn]) <;> omega) | fail) only [pn, pq]) <;> omega) | fail) only [pn, pq]) <;> (intros; (try simp (disch := first | ((try simp (disch := first | ((try simp only [pn]) <;> omega) | fail) only [pn, pq]) <;> omega) | fail) only [pn, pq]) <;> omega)) (by (try simp (disch := first | ((try simp (disch := first | ((try simp only [pn]) <;> omega) | fail) only [pn, pq]) <;> omega) | fail) only [pn, pq]) <;> (intros; (try simp (disch := first | ((try simp (disch := first | ((try simp only [pn]) <;> omega) | fail) only [pn, pq]) <;> omega) | fail) only [pn, pq]) <;> omega))
set_option maxRecDepth 20000 in
set_option maxHeartbeats 8000000 in
theorem sf_X9_bitsBelow {S : bT9} (hJ : K9 S) {a1 : Int32} {Q : Int32 → Prop} (hq : ∀ r : Int32, (0 ≤ r.toInt) → (r.toInt ≤ 366080) → Q r) : wp_X9_bitsBelow S a1 Q := by
  unfold wp_X9_bitsBelow
  have jf1 := K9g_nodeMany hJ
  have jf2 : (-4 ≤ ((b9g_now S) 1).toInt ∧ ((b9g_now S) 1).toInt ≤ 4) ∧ (-3 ≤ ((b9g_now S) 4).toInt ∧ ((b9g_now S) 4).toInt ≤ 252) ∧ (0 ≤ ((b9g_now S) 8).toInt ∧ ((b9g_now S) 8).toInt ≤ 64) ∧ (0 ≤ ((b9g_now S) 9).toInt ∧ ((b9g_now S) 9).toInt ≤ 64) ∧ (0 ≤ ((b9g_now S) 10).toInt ∧ ((b9g_now S) 10).toInt ≤ 16) ∧ (0 ≤ ((b9g_now S) 12).toInt ∧ ((b9g_now S) 12).toInt ≤ 8) := K9g_now hJ
  have rga1 := pt_rg a1
  refine ⟨fun n x1q1 x2q1 x3q1 => (x1q1 = a1) ∧ (0 ≤ (x3q1).toInt) ∧ ((x3q1).toInt ≤ 512) ∧ (0 ≤ (x2q1).toInt) ∧ ((x2q1).toInt ≤ 715 * (x3q1).toInt) ∧ n = ((b9g_nodeMany S).toInt + 1 - (x3q1).toInt).toNat, ⟨_, rfl, (by (try simp (disch := first | ((try simp (disch := first | ((try simp only [pn]) <;> omega) | fail) only [pn, pq]) <;> omega) | fail) only [pn, pq]) <;> (intros; (try simp (disch := first | ((try simp (disch := first | ((try simp only [pn]) <;> omega) | fail) only [pn, pq]) <;> omega) | fail) only [pn, pq]) <;> omega)), (by (try simp (disch := first | ((try simp (disch := first | ((try simp only [pn]) <;> omega) | fail) only [pn, pq]) <;> omega) | fail) only [pn, pq]) <;> (intros; (try simp (disch := first | ((try simp (disch := first | ((try simp only [pn]) <;> omega) | fail) only [pn, pq]) <;> omega) | fail) only [pn, pq]) <;> omega)), (by (try simp (disch := first | ((try simp (disch := first | ((try simp only [pn]) <;> omega) | fail) only [pn, pq]) <;> omega) | fail) only [pn, pq]) <;> (intros; (try simp (disch := first | ((try simp (disch := first | ((try simp only [pn]) <;> omega) | fail) only [pn, pq]) <;> omega) | fail) only [pn, pq]) <;> omega)), (by (try simp (disch := first | ((try simp (disch := first | ((try simp only [pn]) <;> omega) | fail) only [pn, pq]) <;> omega) | fail) only [pn, pq]) <;> (intros; (try simp (disch := first | ((try simp (disch := first | ((try simp only [pn]) <;> omega) | fail) only [pn, pq]) <;> omega) | fail) only [pn, pq]) <;> omega)), rfl⟩, ?_⟩
  rintro n2 x1q1 x2q1 x3q1 ⟨hkq1_0, hiq1_0, hiq1_1, hiq1_2, hiq1_3, hn2⟩
  subst hkq1_0
  have rgx1q1 := pt_rg x1q1
  have rgx2q1 := pt_rg x2q1
  have rgx3q1 := pt_rg x3q1
  unfold wp_X9_bitsBelow_4b
  refine ⟨fun c3 => ?_, fun c3 => ?_⟩
  · try simp (disch := first | ((try simp (disch := first | ((try simp only [pn]) <;> omega) | fail) only [pn, pq]) <;> omega) | fail) only [pn, pq] at c3
    exact hq _ (by (try simp (disch := first | ((try simp (disch := first | ((try simp only [pn]) <;> omega) | fail) only [pn, pq]) <;> omega) | fail) only [pn, pq]) <;> (intros; (try simp (disch := first | ((try simp (disch := first | ((try simp only [pn]) <;> omega) | fail) only [pn, pq]) <;> omega) | fail) only [pn, pq]) <;> omega)) (by (try simp (disch := first | ((try simp (disch := first | ((try simp only [pn]) <;> omega) | fail) only [pn, pq]) <;> omega) | fail) only [pn, pq]) <;> (intros; (try simp (disch := first | ((try simp (disch := first | ((try simp only [pn]) <;> omega) | fail) only [pn, pq]) <;> omega) | fail) only [pn, pq]) <;> omega))
  · try simp (disch := first | ((try simp (disch := first | ((try simp only [pn]) <;> omega) | fail) only [pn, pq]) <;> omega) | fail) only [pn, pq] at c3
    refine ⟨pt_in (by (try simp (disch := first | ((try simp (disch := first | ((try simp only [pn]) <;> omega) | fail) only [pn, pq]) <;> omega) | fail) only [pn, pq]) <;> (intros; (try simp (disch := first | ((try simp (disch := first | ((try simp only [pn]) <;> omega) | fail) only [pn, pq]) <;> omega) | fail) only [pn, pq]) <;> omega)) (by (try simp (disch := first | ((try simp (disch := first | ((try simp only [pn]) <;> omega) | fail) only [pn, pq]) <;> omega) | fail) only [pn, pq]) <;> (intros; (try simp (disch := first | ((try simp (disch := first | ((try simp only [pn]) <;> omega) | fail) only [pn, pq]) <;> omega) | fail) only [pn, pq]) <;> omega)), ?_⟩
    have jr3 := ND_at (K9g_ND hJ) (x := x3q1) (by (try simp (disch := first | ((try simp (disch := first | ((try simp only [pn]) <;> omega) | fail) only [pn, pq]) <;> omega) | fail) only [pn, pq]) <;> (intros; (try simp (disch := first | ((try simp (disch := first | ((try simp only [pn]) <;> omega) | fail) only [pn, pq]) <;> omega) | fail) only [pn, pq]) <;> omega)) (by (try simp (disch := first | ((try simp (disch := first | ((try simp only [pn]) <;> omega) | fail) only [pn, pq]) <;> omega) | fail) only [pn, pq]) <;> (intros; (try simp (disch := first | ((try simp (disch := first | ((try simp only [pn]) <;> omega) | fail) only [pn, pq]) <;> omega) | fail) only [pn, pq]) <;> omega))
    try simp (disch := first | ((try simp (disch := first | ((try simp only [pn]) <;> omega) | fail) only [pn, pq]) <;> omega) | fail) only [pn, pq] at jr3
    refine ⟨fun c4 => ?_, fun c4 => ?_⟩
    · try simp (disch := first | ((try simp (disch := first | ((try simp only [pn]) <;> omega) | fail) only [pn, pq]) <;> omega) | fail) only [pn, pq] at c4
      unfold wp_X9_bitsBelow_31
      refine ⟨_, ?_, ?_, ?_, ?_, ?_, ?_, rfl⟩
      · (try simp (disch := first | ((try simp (disch := first | ((try simp only [pn]) <;> omega) | fail) only [pn, pq]) <;> omega) | fail) only [pn, pq]) <;> (intros; (try simp (disch := first | ((try simp (disch := first | ((try simp only [pn]) <;> omega) | fail) only [pn, pq]) <;> omega) | fail) only [pn, pq]) <;> omega)
      · first | rfl | assumption
      · (try simp (disch := first | ((try simp (disch := first | ((try simp only [pn]) <;> omega) | fail) only [pn, pq]) <;> omega) | fail) only [pn, pq]) <;> (intros; (try simp (disch := first | ((try simp (disch := first | ((try simp only [pn]) <;> omega) | fail) only [pn, pq]) <;> omega) | fail) only [pn, pq]) <;> omega)
      · (try simp (disch := first | ((try simp (disch := first | ((try simp only [pn]) <;> omega) | fail) only [pn, pq]) <;> omega) | fail) only [pn, pq]) <;> (intros; (try simp (disch := first | ((try simp (disch := first | ((try simp only [pn]) <;> omega) | fail) only [pn, pq]) <;> omega) | fail) only [pn, pq]) <;> omega)
      · (try simp (disch := first | ((try simp (disch := first | ((try simp only [pn]) <;> omega) | fail) only [pn, pq]) <;> omega) | fail) only [pn, pq]) <;> (intros; (try simp (disch := first | ((try simp (disch := first | ((try simp only [pn]) <;> omega) | fail) only [pn, pq]) <;> omega) | fail) only [pn, pq]) <;> omega)
      · (try simp (disch := first | ((try simp (disch := first | ((try simp only [pn]) <;> omega) | fail) only [pn, pq]) <;> omega) | fail) only [pn, pq]) <;> (intros; (try simp (disch := first | ((try simp (disch := first | ((try simp only [pn]) <;> omega) | fail) only [pn, pq]) <;> omega) | fail) only [pn, pq]) <;> omega)
    · try simp (disch := first | ((try simp (disch := first | ((try simp only [pn]) <;> omega) | fail) only [pn, pq]) <;> omega) | fail) only [pn, pq] at c4
      refine sf_X9_bitsOf hJ (by (try simp (disch := first | ((try simp (disch := first | ((try simp only [pn]) <;> omega) | fail) only [pn, pq]) <;> omega) | fail) only [pn, pq]) <;> (intros; (try simp (disch := first | ((try simp (disch := first | ((try simp only [pn]) <;> omega) | fail) only [pn, pq]) <;> omega) | fail) only [pn, pq]) <;> omega)) (by (try simp (disch := first | ((try simp (disch := first | ((try simp only [pn]) <;> omega) | fail) only [pn, pq]) <;> omega) | fail) only [pn, pq]) <;> (intros; (try simp (disch := first | ((try simp (disch := first | ((try simp only [pn]) <;> omega) | fail) only [pn, pq]) <;> omega) | fail) only [pn, pq]) <;> omega)) (fun r5 hr5_0 hr5_1 => ?_)
      have rgr5 := pt_rg r5
      try simp (disch := first | ((try simp (disch := first | ((try simp only [pn]) <;> omega) | fail) only [pn, pq]) <;> omega) | fail) only [pn, pq] at hr5_0
      try simp (disch := first | ((try simp (disch := first | ((try simp only [pn]) <;> omega) | fail) only [pn, pq]) <;> omega) | fail) only [pn, pq] at hr5_1
      unfold wp_X9_bitsBelow_31
      refine ⟨_, ?_, ?_, ?_, ?_, ?_, ?_, rfl⟩
      · (try simp (disch := first | ((try simp (disch := first | ((try simp only [pn]) <;> omega) | fail) only [pn, pq]) <;> omega) | fail) only [pn, pq]) <;> (intros; (try simp (disch := first | ((try simp (disch := first | ((try simp only [pn]) <;> omega) | fail) only [pn, pq]) <;> omega) | fail) only [pn, pq]) <;> omega)
      · first | rfl | assumption
      · (try simp (disch := first | ((try simp (disch := first | ((try simp only [pn]) <;> omega) | fail) only [pn, pq]) <;> omega) | fail) only [pn, pq]) <;> (intros; (try simp (disch := first | ((try simp (disch := first | ((try simp only [pn]) <;> omega) | fail) only [pn, pq]) <;> omega) | fail) only [pn, pq]) <;> omega)
      · (try simp (disch := first | ((try simp (disch := first | ((try simp only [pn]) <;> omega) | fail) only [pn, pq]) <;> omega) | fail) only [pn, pq]) <;> (intros; (try simp (disch := first | ((try simp (disch := first | ((try simp only [pn]) <;> omega) | fail) only [pn, pq]) <;> omega) | fail) only [pn, pq]) <;> omega)
      · (try simp (disch := first | ((try simp (disch := first | ((try simp only [pn]) <;> omega) | fail) only [pn, pq]) <;> omega) | fail) only [pn, pq]) <;> (intros; (try simp (disch := first | ((try simp (disch := first | ((try simp only [pn]) <;> omega) | fail) only [pn, pq]) <;> omega) | fail) only [pn, pq]) <;> omega)
      · (try simp (disch := first | ((try simp (disch := first | ((try simp only [pn]) <;> omega) | fail) only [pn, pq]) <;> omega) | fail) only [pn, pq]) <;> (intros; (try simp (disch := first | ((try simp (disch := first | ((try simp only [pn]) <;> omega) | fail) only [pn, pq]) <;> omega) | fail) only [pn, pq]) <;> omega)
theorem sf_X9_upperBy {S : bT9} (hJ : K9 S) {a1 : Int32} {Q : Int32 → Prop} (hq : ∀ r : Int32, Q r) : wp_X9_upperBy S a1 Q := by
  unfold wp_X9_upperBy
  have jf := K9g_levelMany hJ
  refine ⟨fun c1 => ⟨fun c2 => ?_, fun c2 => ⟨fun c3 => hq _, fun c3 => hq _⟩⟩, fun c1 => hq _⟩
  unfold wp_X9_upperBy_37
  refine ⟨fun n x => 0 ≤ x.toInt ∧ n = x.toInt.toNat, ⟨_, jf.1, rfl⟩, ?_⟩
  rintro n x ⟨h0, hn⟩
  unfold wp_X9_upperBy_37b
  refine ⟨pt_in (by decide) (by decide), sf_X9_bitsAbove hJ (fun r1 k1 k2 k3 => sf_X9_bitsBelow hJ (fun r3 m1 m2 => ⟨fun _ => hq _, fun c => ?_⟩))⟩
  have hx : x.toInt ≠ 0 := by
    intro hx
    have e := k3 (by omega)
    apply c
    rw [Int32.le_iff_toInt_le, Int32.toInt_mul, e, Int.mul_zero]
    exact m1
  have rg := pt_rg x
  have e1 : (x - 1).toInt = x.toInt - 1 := by rw [pt_sub (by rw [pl_1]; omega) (by rw [pl_1]; omega), pl_1]
  exact ⟨_, by omega, by omega, rfl⟩
def F_X9_laysNodes (S u : bT9) : Prop := (b9g_told u) = (b9g_told S) ∧ (b9g_now u) = (b9g_now S) ∧ (b9g_keys u) = (b9g_keys S) ∧ (b9g_lengths u) = (b9g_lengths S) ∧ (b9g_drawn u) = (b9g_drawn S) ∧ (b9g_drawnLength u) = (b9g_drawnLength S) ∧ (b9g_tape u) = (b9g_tape S) ∧ (b9g_taped u) = (b9g_taped S) ∧ (b9g_names u) = (b9g_names S) ∧ (b9g_chosen u) = (b9g_chosen S) ∧ (b9g_lowKey u) = (b9g_lowKey S) ∧ (b9g_highKey u) = (b9g_highKey S) ∧ (b9g_lowLength u) = (b9g_lowLength S) ∧ (b9g_highLength u) = (b9g_highLength S) ∧ (b9g_fromKey u) = (b9g_fromKey S) ∧ (b9g_toKey u) = (b9g_toKey S) ∧ (b9g_fromLength u) = (b9g_fromLength S) ∧ (b9g_toLength u) = (b9g_toLength S) ∧ (b9g_ones u) = (b9g_ones S) ∧ (b9g_oneMany u) = (b9g_oneMany S) ∧ (b9g_rowLong u) = (b9g_rowLong S) ∧ (b9g_signs u) = (b9g_signs S) ∧ (b9g_signMany u) = (b9g_signMany S) ∧ (b9g_hasImage u) = (b9g_hasImage S) ∧ (b9g_images u) = (b9g_images S) ∧ (b9g_keyImages u) = (b9g_keyImages S) ∧ (b9g_lengthImages u) = (b9g_lengthImages S)
theorem sf_X9_laysNodes {S : bT9} (hJ : J9 S) {Q : (bT9) → Prop} (hq : ∀ u : bT9, (J9 u) → F_X9_laysNodes S u → (T9P S → TDW S → TDW u ∧ (b9g_areNodesLaid u).toInt ≠ 0 ∧ (b9g_isLaid u).toInt ≠ 0) → Q u) : wp_X9_laysNodes S Q := by
  unfold wp_X9_laysNodes
  refine sf_X9_laysBeginnings hJ (fun u19 hJ19 hf19 hil19 => ?_)
  have hF19 : F_X9_laysNodes S u19 := ⟨hf19.1, hf19.2.1, hf19.2.2.1, hf19.2.2.2.1, hf19.2.2.2.2.1, hf19.2.2.2.2.2.1, hf19.2.2.2.2.2.2.1, hf19.2.2.2.2.2.2.2.1, hf19.2.2.2.2.2.2.2.2.1, hf19.2.2.2.2.2.2.2.2.2.1, hf19.2.2.2.2.2.2.2.2.2.2.2.2.2.2.2.2.2.2.2.2.2.2.2.2.2.1, hf19.2.2.2.2.2.2.2.2.2.2.2.2.2.2.2.2.2.2.2.2.2.2.2.2.2.2.1, hf19.2.2.2.2.2.2.2.2.2.2.2.2.2.2.2.2.2.2.2.2.2.2.2.2.2.2.2.1, hf19.2.2.2.2.2.2.2.2.2.2.2.2.2.2.2.2.2.2.2.2.2.2.2.2.2.2.2.2.1, hf19.2.2.2.2.2.2.2.2.2.2.2.2.2.2.2.2.2.2.2.2.2.2.2.2.2.2.2.2.2.1, hf19.2.2.2.2.2.2.2.2.2.2.2.2.2.2.2.2.2.2.2.2.2.2.2.2.2.2.2.2.2.2.1, hf19.2.2.2.2.2.2.2.2.2.2.2.2.2.2.2.2.2.2.2.2.2.2.2.2.2.2.2.2.2.2.2.1, hf19.2.2.2.2.2.2.2.2.2.2.2.2.2.2.2.2.2.2.2.2.2.2.2.2.2.2.2.2.2.2.2.2.1, hf19.2.2.2.2.2.2.2.2.2.2.2.2.2.2.2.2.2.2.2.2.2.2.2.2.2.2.2.2.2.2.2.2.2.1, hf19.2.2.2.2.2.2.2.2.2.2.2.2.2.2.2.2.2.2.2.2.2.2.2.2.2.2.2.2.2.2.2.2.2.2.1, hf19.2.2.2.2.2.2.2.2.2.2.2.2.2.2.2.2.2.2.2.2.2.2.2.2.2.2.2.2.2.2.2.2.2.2.2.1, hf19.2.2.2.2.2.2.2.2.2.2.2.2.2.2.2.2.2.2.2.2.2.2.2.2.2.2.2.2.2.2.2.2.2.2.2.2.2.1, hf19.2.2.2.2.2.2.2.2.2.2.2.2.2.2.2.2.2.2.2.2.2.2.2.2.2.2.2.2.2.2.2.2.2.2.2.2.2.2.1, hf19.2.2.2.2.2.2.2.2.2.2.2.2.2.2.2.2.2.2.2.2.2.2.2.2.2.2.2.2.2.2.2.2.2.2.2.2.2.2.2.1, hf19.2.2.2.2.2.2.2.2.2.2.2.2.2.2.2.2.2.2.2.2.2.2.2.2.2.2.2.2.2.2.2.2.2.2.2.2.2.2.2.2.1, hf19.2.2.2.2.2.2.2.2.2.2.2.2.2.2.2.2.2.2.2.2.2.2.2.2.2.2.2.2.2.2.2.2.2.2.2.2.2.2.2.2.2.1, hf19.2.2.2.2.2.2.2.2.2.2.2.2.2.2.2.2.2.2.2.2.2.2.2.2.2.2.2.2.2.2.2.2.2.2.2.2.2.2.2.2.2.2⟩
  refine ⟨fun c => ?_, fun c => hq _ hJ19 hF19 (fun hP hW => ⟨TDW_same hW ⟨hf19.2.2.1, hf19.2.2.2.1, hf19.2.1⟩ (hf19.2.2.2.2.2.2.2.2.2.2.2.2.2.2.2.2.2.1) (hf19.2.2.2.2.2.2.2.2.2.2.1) (hf19.2.2.2.2.2.2.2.2.2.2.2.1) (hf19.2.2.2.2.2.2.2.2.2.2.2.2.1) (hf19.2.2.2.2.2.2.2.2.2.2.2.2.2.1) (hf19.2.2.2.2.2.2.2.2.2.2.2.2.2.2.1) (hf19.2.2.2.2.2.2.2.2.2.2.2.2.2.2.2.1) (hf19.2.2.2.2.2.2.2.2.2.2.2.2.2.2.2.2.1) (hf19.2.2.2.2.2.2.2.2.2.2.2.2.2.2.2.2.2.2.1) (hf19.2.2.2.2.2.2.2.2.2.2.2.2.2.2.2.2.2.2.2.1) (hf19.2.2.2.2.2.2.2.2.2.2.2.2.2.2.2.2.2.2.2.2.1) (hf19.2.2.2.2.2.2.2.2.2.2.2.2.2.2.2.2.2.2.2.2.2.1) (hf19.2.2.2.2.2.2.2.2.2.2.2.2.2.2.2.2.2.2.2.2.2.2.1) (hf19.2.2.2.2.2.2.2.2.2.2.2.2.2.2.2.2.2.2.2.2.2.2.2.1) (hf19.2.2.2.2.2.2.2.2.2.2.2.2.2.2.2.2.2.2.2.2.2.2.2.2.2.2.2.2.2.2.2.2.2.2.2.2.1) (hf19.2.2.2.2.2.2.2.2.2.2.2.2.2.2.2.2.2.2.2.2.2.2.2.2.2.2.2.2.2.2.2.2.2.2.1) (hf19.2.2.2.2.2.2.2.2.2.2.2.2.2.2.2.2.2.2.2.2.2.2.2.2.2.2.2.2.2.2.2.2.2.2.2.1) (hf19.2.2.2.2.2.2.2.2.2.2.2.2.2.2.2.2.2.2.2.2.2.2.2.2.2.2.2.2.2.2.2.2.2.1), fun z => c (Int32.toInt_inj.mp z), hil19⟩)⟩
  intro S20 e20 S21 e21 S22 e22 S23 e23
  have hK21 : K9 S21 := by rw [e21, e20]; exact K9s_laidFor (K9s_areNodesLaid hJ19.1)
  have hF21 : F_X9_laysNodes S S21 := by rw [e21, e20]; exact hF19
  have hK23 : K9 S23 := by
    rw [e23, e22]
    exact K9s_levelMany (K9s_nodeMany hK21 ⟨by decide, by decide⟩ (fun x hx => by rw [pl_0] at hx; omega)) ⟨by decide, by decide⟩
  have hF23 : F_X9_laysNodes S S23 := by rw [e23, e22]; exact hF21
  have hm23 : (b9g_nodeMany S23).toInt = 0 := by rw [e23, e22]; rfl
  have hTR23 : TR S23 0 0 := by
    refine ⟨fun x hx => ?_, fun l i h0 h1 h2 h3 => ?_, fun x hx => ?_, by rw [e23, e22, e21, e20]; exact hJ19.2.2⟩
    · rw [hm23] at hx; omega
    · omega
    · rw [hm23] at hx; omega
  have hW23 : NSW S23 := ⟨fun x hx => by rw [hm23] at hx; omega, fun _ => by rw [e23]; rfl, fun x hx => by rw [hm23] at hx; omega, ⟨by rw [e23, e22, e21, e20], by rw [e23, e22, e21]⟩, by rw [e23, e22, e21, e20]; exact hil19⟩
  have last : ∀ V : bT9, K9 V → F_X9_laysNodes S V → TR V 8 0 → NSW V → wp_X9_laysNodes_34b V 8 Q (fun _ _ => False) := by
    intro V hK hF hT hWV
    by_cases hP : T9P S
    case pos =>
      have sm : SM9 V S := ⟨hF.2.2.1, hF.2.2.2.1, hF.2.1⟩
      have hPV := T9P_same hP sm
      have jm := K9g_nodeMany hK
      have rV : R9 V := R9_LD hPV.1 hPV.2.1 hK hT.2.2.2 hWV.2.2.2.2
      have nV : N9 V := NOD_TR rV (K9g_ND hK) jm.1 hT.1 hT.2.1 hT.2.2.1 hWV.1
      have jl := K9g_levelMany hK
      obtain ⟨lv, elv⟩ : ∃ lv : Nat, (b9g_levelMany V).toInt = (lv : Int) := ⟨(b9g_levelMany V).toInt.toNat, by omega⟩
      have hlev := LEVS_last rV nV hWV.2.1 hWV.2.2.1
      have G := rV.1
      have n5 := NB_le G (l := 7) (i := 64) (by omega) (by omega)
      have nb5 : NB (n9 V) (C9 V) (P9 V) (64 * 7 + 64) = NB (n9 V) (C9 V) (P9 V) 512 := rfl
      have hm := nV.1
      have den : ¬ lv = 0 → 0 ≤ (b9g_now V 13 - 1).toInt := by
        intro z
        rcases hPV.2.2 with y | y
        · exfalso
          rcases hlev with ⟨y1, _⟩ | ⟨q, y1, _, y3, _⟩
          · omega
          · have e0 : n9 V = 0 := by unfold n9; omega
            have k : NB (n9 V) (C9 V) (P9 V) (64 * (q + 1)) = NB (n9 V) (C9 V) (P9 V) (64 * q) := CTP_st _ (by omega) (fun w _ _ r => by have := r.1; omega)
            omega
        · exact y
      unfold wp_X9_laysNodes_34b
      refine ⟨fun _ => ⟨pt_in (by decide) (by decide), fx9_upperBy rV nV elv (by omega) den (fun r14 u hr hul hU S16 e16 S17 e17 => ?_)⟩, fun c => absurd (Int32.le_refl _) c⟩
      have hK17 : K9 S17 := by rw [e17, e16]; exact K9s_upperNodes (K9s_upper hK) ⟨by decide, by decide⟩
      have hJ17 : J9 S17 := ⟨hK17, by
        have a : (b9g_upperNodes S17).toInt = 0 := by rw [e17]; rfl
        have b : b9g_nodeMany S17 = b9g_nodeMany V := by rw [e17, e16]
        rw [a, b]; exact jm.1, by rw [e17, e16]; exact hT.2.2.2⟩
      have hF17 : F_X9_laysNodes S S17 := by rw [e17, e16]; exact hF
      have hT17 : TR S17 8 0 := by rw [e17, e16]; exact hT
      have nu := NB_nn (n := n9 V) (C := C9 V) (P := P9 V) (64 * u)
      have num := NB_mono (n := n9 V) (C := C9 V) (P := P9 V) (show 64 * u ≤ 512 by omega)
      unfold wp_X9_laysNodes_192
      refine ⟨fun n W => J9 W ∧ F_X9_laysNodes S W ∧ TR W 8 0 ∧ SM9 W V ∧ (b9g_nodeLevel W = b9g_nodeLevel V ∧ b9g_nodeLeaf W = b9g_nodeLeaf V ∧ b9g_nodeLeaves W = b9g_nodeLeaves V ∧ b9g_nodeMany W = b9g_nodeMany V ∧ b9g_levelMany W = b9g_levelMany V) ∧ (b9g_beginning W = b9g_beginning V ∧ b9g_common W = b9g_common V ∧ b9g_areNodesLaid W = b9g_areNodesLaid V ∧ b9g_isLaid W = b9g_isLaid V ∧ b9g_laidFor W = b9g_laidFor V) ∧ b9g_upper W = r14 ∧ (b9g_upperNodes W).toInt ≤ NB (n9 V) (C9 V) (P9 V) (64 * u) ∧ n = ((b9g_nodeMany W).toInt - (b9g_upperNodes W).toInt).toNat, ⟨_, hJ17, hF17, hT17, by rw [e17, e16]; exact ⟨rfl, rfl, rfl⟩, by rw [e17, e16]; exact ⟨rfl, rfl, rfl, rfl, rfl⟩, by rw [e17, e16]; exact ⟨rfl, rfl, rfl, rfl, rfl⟩, by rw [e17, e16], by rw [e17]; exact nu, rfl⟩, ?_⟩
      rintro n W ⟨hJW, hFW, hTW, sW, ⟨d1, d2, d3, d4, d5⟩, ⟨d6, d7, d8, d9, d10⟩, eu, hle, hn⟩
      have jmW := J9g_nodeMany hJW
      have juW := J9g_upperNodes hJW
      obtain ⟨s1, s2, s3, s4⟩ := SM9_n sW
      have rW : R9 W := R9_same rV sW d6 d7
      have nW : N9 W := N9_same nV sW d1 d2 d3 d4
      have fin : (b9g_upperNodes W).toInt = NB (n9 V) (C9 V) (P9 V) (64 * u) → wp_X9_laysNodes_232 W Q := by
        intro heq
        unfold wp_X9_laysNodes_232
        refine sf_X9_laysItems hJW hTW (fun u2 hJu hf hres => hq _ hJu ⟨(hf.1).trans (hFW.1), (hf.2.1).trans (hFW.2.1), (hf.2.2.1).trans (hFW.2.2.1), (hf.2.2.2.1).trans (hFW.2.2.2.1), (hf.2.2.2.2.1).trans (hFW.2.2.2.2.1), (hf.2.2.2.2.2.1).trans (hFW.2.2.2.2.2.1), (hf.2.2.2.2.2.2.1).trans (hFW.2.2.2.2.2.2.1), (hf.2.2.2.2.2.2.2.1).trans (hFW.2.2.2.2.2.2.2.1), (hf.2.2.2.2.2.2.2.2.1).trans (hFW.2.2.2.2.2.2.2.2.1), (hf.2.2.2.2.2.2.2.2.2.1).trans (hFW.2.2.2.2.2.2.2.2.2.1), (hf.2.2.2.2.2.2.2.2.2.2.2.2.2.2.2.2.2.2.2.2.2.1).trans (hFW.2.2.2.2.2.2.2.2.2.2.1), (hf.2.2.2.2.2.2.2.2.2.2.2.2.2.2.2.2.2.2.2.2.2.2.1).trans (hFW.2.2.2.2.2.2.2.2.2.2.2.1), (hf.2.2.2.2.2.2.2.2.2.2.2.2.2.2.2.2.2.2.2.2.2.2.2.1).trans (hFW.2.2.2.2.2.2.2.2.2.2.2.2.1), (hf.2.2.2.2.2.2.2.2.2.2.2.2.2.2.2.2.2.2.2.2.2.2.2.2.1).trans (hFW.2.2.2.2.2.2.2.2.2.2.2.2.2.1), (hf.2.2.2.2.2.2.2.2.2.2.2.2.2.2.2.2.2.2.2.2.2.2.2.2.2.1).trans (hFW.2.2.2.2.2.2.2.2.2.2.2.2.2.2.1), (hf.2.2.2.2.2.2.2.2.2.2.2.2.2.2.2.2.2.2.2.2.2.2.2.2.2.2.1).trans (hFW.2.2.2.2.2.2.2.2.2.2.2.2.2.2.2.1), (hf.2.2.2.2.2.2.2.2.2.2.2.2.2.2.2.2.2.2.2.2.2.2.2.2.2.2.2.1).trans (hFW.2.2.2.2.2.2.2.2.2.2.2.2.2.2.2.2.1), (hf.2.2.2.2.2.2.2.2.2.2.2.2.2.2.2.2.2.2.2.2.2.2.2.2.2.2.2.2.1).trans (hFW.2.2.2.2.2.2.2.2.2.2.2.2.2.2.2.2.2.1), (hf.2.2.2.2.2.2.2.2.2.2.2.2.2.2.2.2.2.2.2.2.2.2.2.2.2.2.2.2.2.1).trans (hFW.2.2.2.2.2.2.2.2.2.2.2.2.2.2.2.2.2.2.1), (hf.2.2.2.2.2.2.2.2.2.2.2.2.2.2.2.2.2.2.2.2.2.2.2.2.2.2.2.2.2.2.1).trans (hFW.2.2.2.2.2.2.2.2.2.2.2.2.2.2.2.2.2.2.2.1), (hf.2.2.2.2.2.2.2.2.2.2.2.2.2.2.2.2.2.2.2.2.2.2.2.2.2.2.2.2.2.2.2.1).trans (hFW.2.2.2.2.2.2.2.2.2.2.2.2.2.2.2.2.2.2.2.2.1), (hf.2.2.2.2.2.2.2.2.2.2.2.2.2.2.2.2.2.2.2.2.2.2.2.2.2.2.2.2.2.2.2.2.2.1).trans (hFW.2.2.2.2.2.2.2.2.2.2.2.2.2.2.2.2.2.2.2.2.2.1), (hf.2.2.2.2.2.2.2.2.2.2.2.2.2.2.2.2.2.2.2.2.2.2.2.2.2.2.2.2.2.2.2.2.2.2.1).trans (hFW.2.2.2.2.2.2.2.2.2.2.2.2.2.2.2.2.2.2.2.2.2.2.1), (hf.2.2.2.2.2.2.2.2.2.2.2.2.2.2.2.2.2.2.2.2.2.2.2.2.2.2.2.2.2.2.2.2.2.2.2.1).trans (hFW.2.2.2.2.2.2.2.2.2.2.2.2.2.2.2.2.2.2.2.2.2.2.2.1), (hf.2.2.2.2.2.2.2.2.2.2.2.2.2.2.2.2.2.2.2.2.2.2.2.2.2.2.2.2.2.2.2.2.2.2.2.2.1).trans (hFW.2.2.2.2.2.2.2.2.2.2.2.2.2.2.2.2.2.2.2.2.2.2.2.2.1), (hf.2.2.2.2.2.2.2.2.2.2.2.2.2.2.2.2.2.2.2.2.2.2.2.2.2.2.2.2.2.2.2.2.2.2.2.2.2.1).trans (hFW.2.2.2.2.2.2.2.2.2.2.2.2.2.2.2.2.2.2.2.2.2.2.2.2.2.1), (hf.2.2.2.2.2.2.2.2.2.2.2.2.2.2.2.2.2.2.2.2.2.2.2.2.2.2.2.2.2.2.2.2.2.2.2.2.2.2).trans (hFW.2.2.2.2.2.2.2.2.2.2.2.2.2.2.2.2.2.2.2.2.2.2.2.2.2.2)⟩ (fun _ _ => ?_))
        obtain ⟨i1, i2, i3⟩ := hres u rW nW (by omega) (by rw [eu]; exact hr) (by rw [s1, s2, s4]; exact heq)
        have sU : SM9 u2 W := ⟨hf.2.2.1, hf.2.2.2.1, hf.2.1⟩
        obtain ⟨t1, t2, t3, t4⟩ := SM9_n sU
        have fL : b9g_areNodesLaid u2 = b9g_areNodesLaid W := hf.2.2.2.2.2.2.2.2.2.2.2.2.2.2.2.2.2.2.2.2.1
        have fI : b9g_isLaid u2 = b9g_isLaid W := hf.2.2.2.2.2.2.2.2.2.2.2.2.1
        refine ⟨fun _ => ⟨⟨N9_same nW sU (hf.2.2.2.2.2.2.2.2.2.2.2.2.2.1) (hf.2.2.2.2.2.2.2.2.2.2.2.2.2.2.1) (hf.2.2.2.2.2.2.2.2.2.2.2.2.2.2.2.1) (hf.2.2.2.2.2.2.2.2.2.2.2.2.2.2.2.2.1), u, lv, ?_, by omega, ?_, ?_, hul, ?_, ?_, ?_, ?_, ?_⟩, fun ro k b1 _ _ => ?_⟩, by rw [fL, d8, hWV.2.2.2.1.1]; decide, by rw [fI, d9]; exact hWV.2.2.2.2⟩
        · rw [show b9g_levelMany u2 = b9g_levelMany W from hf.2.2.2.2.2.2.2.2.2.2.2.2.2.2.2.2.2.1, d5]
          exact elv
        · rw [t1, t2, t4, s1, s2, s4, ← elv]
          exact hlev
        · rw [show b9g_upper u2 = b9g_upper W from hf.2.2.2.2.2.2.2.2.2.2.2.2.2.2.2.2.2.2.1, eu]
          exact hr
        · rw [t1, t2, t4, s1, s2, s4, sU.2.2, sW.2.2]
          exact hU
        · rw [show b9g_upperNodes u2 = b9g_upperNodes W from hf.2.2.2.2.2.2.2.2.2.2.2.2.2.2.2.2.2.2.2.1, t1, t2, t4, s1, s2, s4]
          exact heq
        · rw [t1, t2, t4]
          exact i1
        · rw [t1, t2, t3, t4, sU.1]
          exact i2
        · rw [t1, t2]
          exact i3
        · exfalso
          rw [show b9g_laidFor u2 = b9g_laidFor W from hf.2.2.2.2.2.2.2.2.2.2.2.2.2.2.2.2.2.2.2.2.2.2.2.2.2.2.2.2.2.2.2.2.1, d10, hWV.2.2.2.1.2] at b1
          have : ((-1 : Int32)).toInt = -1 := rfl
          omega
      unfold wp_X9_laysNodes_192b
      refine ⟨fun c1 => fin ?_, fun c1 => ?_⟩
      · simp only [pn] at c1
        rw [d4] at c1
        omega
      simp only [pn] at c1
      obtain ⟨y, ey⟩ : ∃ y : Nat, (b9g_upperNodes W).toInt = (y : Int) := ⟨(b9g_upperNodes W).toInt.toNat, by omega⟩
      have ecl : (b9g_upperNodes W).toNatClampNeg = y := by
        show (b9g_upperNodes W).toInt.toNat = y
        omega
      rw [d4] at c1
      obtain ⟨l, s, e, ha⟩ := AT9_of rV nV (x := y) (by omega)
      obtain ⟨x5, l7, hs, hg, hx, f1, f2, f3⟩ := ha
      have sn := hs.1
      have g64 := G.1
      rw [ecl, d1, eu]
      refine ⟨pt_in (by omega) (by omega), fun c2 => fin ?_, fun c2 S3 e3 => ?_⟩
      · simp only [pn] at c2
        have mn := NB_mono (n := n9 V) (C := C9 V) (P := P9 V) (show 64 * u ≤ 64 * l + s by omega)
        omega
      simp only [pn] at c2
      have lt : NB (n9 V) (C9 V) (P9 V) (64 * l + s) < NB (n9 V) (C9 V) (P9 V) (64 * u) := CTP_lt (by omega) ((IsN_at (by omega)).mpr hs)
      have e1 : (b9g_upperNodes W + 1).toInt = (b9g_upperNodes W).toInt + 1 := by rw [pt_add (by rw [pl_1]; omega) (by rw [pl_1]; omega), pl_1]
      have a : (b9g_upperNodes S3).toInt = (b9g_upperNodes W).toInt + 1 := by rw [e3]; exact e1
      have b : (b9g_nodeMany S3).toInt = (b9g_nodeMany W).toInt := by rw [e3]
      have dm : (b9g_nodeMany W).toInt = (b9g_nodeMany V).toInt := by rw [d4]
      have hJ3 : J9 S3 := ⟨by rw [e3]; exact K9s_upperNodes hJW.1 ⟨by omega, by omega⟩, by omega, by rw [e3]; exact hJW.2.2⟩
      refine ⟨_, ?_, hJ3, by rw [e3]; exact hFW, by rw [e3]; exact hTW, by rw [e3]; exact sW, by rw [e3]; exact ⟨d1, d2, d3, d4, d5⟩, by rw [e3]; exact ⟨d6, d7, d8, d9, d10⟩, by rw [e3]; exact eu, by omega, rfl⟩
      omega
    have jm := K9g_nodeMany hK
    unfold wp_X9_laysNodes_34b
    refine ⟨fun _ => ⟨pt_in (by decide) (by decide), sf_X9_upperBy hK (fun r14 S16 e16 S17 e17 => ?_)⟩, fun c => absurd (Int32.le_refl _) c⟩
    have hK17 : K9 S17 := by rw [e17, e16]; exact K9s_upperNodes (K9s_upper hK) ⟨by decide, by decide⟩
    have hJ17 : J9 S17 := ⟨hK17, by
      have a : (b9g_upperNodes S17).toInt = 0 := by rw [e17]; rfl
      have b : b9g_nodeMany S17 = b9g_nodeMany V := by rw [e17, e16]
      rw [a, b]; exact jm.1, by rw [e17, e16]; exact hT.2.2.2⟩
    have hF17 : F_X9_laysNodes S S17 := by rw [e17, e16]; exact hF
    have hT17 : TR S17 8 0 := by rw [e17, e16]; exact hT
    unfold wp_X9_laysNodes_192
    refine ⟨fun n W => J9 W ∧ F_X9_laysNodes S W ∧ TR W 8 0 ∧ n = ((b9g_nodeMany W).toInt - (b9g_upperNodes W).toInt).toNat, ⟨_, hJ17, hF17, hT17, rfl⟩, ?_⟩
    rintro n W ⟨hJW, hFW, hTW, hn⟩
    have jmW := J9g_nodeMany hJW
    have juW := J9g_upperNodes hJW
    have fin : wp_X9_laysNodes_232 W Q := by
      unfold wp_X9_laysNodes_232
      exact sf_X9_laysItems hJW hTW (fun u2 hJu hf _ => hq _ hJu ⟨(hf.1).trans (hFW.1), (hf.2.1).trans (hFW.2.1), (hf.2.2.1).trans (hFW.2.2.1), (hf.2.2.2.1).trans (hFW.2.2.2.1), (hf.2.2.2.2.1).trans (hFW.2.2.2.2.1), (hf.2.2.2.2.2.1).trans (hFW.2.2.2.2.2.1), (hf.2.2.2.2.2.2.1).trans (hFW.2.2.2.2.2.2.1), (hf.2.2.2.2.2.2.2.1).trans (hFW.2.2.2.2.2.2.2.1), (hf.2.2.2.2.2.2.2.2.1).trans (hFW.2.2.2.2.2.2.2.2.1), (hf.2.2.2.2.2.2.2.2.2.1).trans (hFW.2.2.2.2.2.2.2.2.2.1), (hf.2.2.2.2.2.2.2.2.2.2.2.2.2.2.2.2.2.2.2.2.2.1).trans (hFW.2.2.2.2.2.2.2.2.2.2.1), (hf.2.2.2.2.2.2.2.2.2.2.2.2.2.2.2.2.2.2.2.2.2.2.1).trans (hFW.2.2.2.2.2.2.2.2.2.2.2.1), (hf.2.2.2.2.2.2.2.2.2.2.2.2.2.2.2.2.2.2.2.2.2.2.2.1).trans (hFW.2.2.2.2.2.2.2.2.2.2.2.2.1), (hf.2.2.2.2.2.2.2.2.2.2.2.2.2.2.2.2.2.2.2.2.2.2.2.2.1).trans (hFW.2.2.2.2.2.2.2.2.2.2.2.2.2.1), (hf.2.2.2.2.2.2.2.2.2.2.2.2.2.2.2.2.2.2.2.2.2.2.2.2.2.1).trans (hFW.2.2.2.2.2.2.2.2.2.2.2.2.2.2.1), (hf.2.2.2.2.2.2.2.2.2.2.2.2.2.2.2.2.2.2.2.2.2.2.2.2.2.2.1).trans (hFW.2.2.2.2.2.2.2.2.2.2.2.2.2.2.2.1), (hf.2.2.2.2.2.2.2.2.2.2.2.2.2.2.2.2.2.2.2.2.2.2.2.2.2.2.2.1).trans (hFW.2.2.2.2.2.2.2.2.2.2.2.2.2.2.2.2.1), (hf.2.2.2.2.2.2.2.2.2.2.2.2.2.2.2.2.2.2.2.2.2.2.2.2.2.2.2.2.1).trans (hFW.2.2.2.2.2.2.2.2.2.2.2.2.2.2.2.2.2.1), (hf.2.2.2.2.2.2.2.2.2.2.2.2.2.2.2.2.2.2.2.2.2.2.2.2.2.2.2.2.2.1).trans (hFW.2.2.2.2.2.2.2.2.2.2.2.2.2.2.2.2.2.2.1), (hf.2.2.2.2.2.2.2.2.2.2.2.2.2.2.2.2.2.2.2.2.2.2.2.2.2.2.2.2.2.2.1).trans (hFW.2.2.2.2.2.2.2.2.2.2.2.2.2.2.2.2.2.2.2.1), (hf.2.2.2.2.2.2.2.2.2.2.2.2.2.2.2.2.2.2.2.2.2.2.2.2.2.2.2.2.2.2.2.1).trans (hFW.2.2.2.2.2.2.2.2.2.2.2.2.2.2.2.2.2.2.2.2.1), (hf.2.2.2.2.2.2.2.2.2.2.2.2.2.2.2.2.2.2.2.2.2.2.2.2.2.2.2.2.2.2.2.2.2.1).trans (hFW.2.2.2.2.2.2.2.2.2.2.2.2.2.2.2.2.2.2.2.2.2.1), (hf.2.2.2.2.2.2.2.2.2.2.2.2.2.2.2.2.2.2.2.2.2.2.2.2.2.2.2.2.2.2.2.2.2.2.1).trans (hFW.2.2.2.2.2.2.2.2.2.2.2.2.2.2.2.2.2.2.2.2.2.2.1), (hf.2.2.2.2.2.2.2.2.2.2.2.2.2.2.2.2.2.2.2.2.2.2.2.2.2.2.2.2.2.2.2.2.2.2.2.1).trans (hFW.2.2.2.2.2.2.2.2.2.2.2.2.2.2.2.2.2.2.2.2.2.2.2.1), (hf.2.2.2.2.2.2.2.2.2.2.2.2.2.2.2.2.2.2.2.2.2.2.2.2.2.2.2.2.2.2.2.2.2.2.2.2.1).trans (hFW.2.2.2.2.2.2.2.2.2.2.2.2.2.2.2.2.2.2.2.2.2.2.2.2.1), (hf.2.2.2.2.2.2.2.2.2.2.2.2.2.2.2.2.2.2.2.2.2.2.2.2.2.2.2.2.2.2.2.2.2.2.2.2.2.1).trans (hFW.2.2.2.2.2.2.2.2.2.2.2.2.2.2.2.2.2.2.2.2.2.2.2.2.2.1), (hf.2.2.2.2.2.2.2.2.2.2.2.2.2.2.2.2.2.2.2.2.2.2.2.2.2.2.2.2.2.2.2.2.2.2.2.2.2.2).trans (hFW.2.2.2.2.2.2.2.2.2.2.2.2.2.2.2.2.2.2.2.2.2.2.2.2.2.2)⟩ (fun h => absurd h hP))
    unfold wp_X9_laysNodes_192b
    refine ⟨fun _ => fin, fun c1 => ?_⟩
    simp (disch := first | ((try simp (disch := first | ((try simp only [pn]) <;> omega) | fail) only [pn, pq]) <;> omega) | fail) only [pn, pq] at c1
    refine ⟨pt_in (by omega) (by omega), fun _ => fin, fun _ S3 e3 => ?_⟩
    have e1 : (b9g_upperNodes W + 1).toInt = (b9g_upperNodes W).toInt + 1 := by rw [pt_add (by rw [pl_1]; omega) (by rw [pl_1]; omega), pl_1]
    have a : (b9g_upperNodes S3).toInt = (b9g_upperNodes W).toInt + 1 := by rw [e3]; exact e1
    have b : (b9g_nodeMany S3).toInt = (b9g_nodeMany W).toInt := by rw [e3]
    have hJ3 : J9 S3 := ⟨by rw [e3]; exact K9s_upperNodes hJW.1 ⟨by omega, by omega⟩, by omega, by rw [e3]; exact hJW.2.2⟩
    refine ⟨_, ?_, hJ3, by rw [e3]; exact hFW, by rw [e3]; exact hTW, rfl⟩
    omega
  unfold wp_X9_laysNodes_34
  refine ⟨fun n x1 V => K9 V ∧ (F_X9_laysNodes S V ∧ NSW V) ∧ 0 ≤ x1.toInt ∧ x1.toInt ≤ 8 ∧ TR V x1.toInt 0 ∧ (b9g_nodeMany V).toInt ≤ 64 * x1.toInt ∧ (∀ x : Nat, (x : Int) + 1 = (b9g_nodeMany V).toInt → (b9g_nodeLevel V x).toInt < x1.toInt) ∧ n = (8 - x1.toInt).toNat, ⟨_, hK23, ⟨hF23, hW23⟩, by decide, by decide, hTR23, by rw [hm23]; decide, fun x hx => by rw [hm23] at hx; omega, rfl⟩, ?_⟩
  rintro n x1 V ⟨hK, ⟨hF, hW⟩, h0, h8, hT, hm, hl, hn⟩
  by_cases hx8 : x1.toInt = 8
  · have ex : x1 = 8 := Int32.toInt_inj.mp hx8
    subst ex
    have q := last V hK hF hT hW
    unfold wp_X9_laysNodes_34b at q ⊢
    exact ⟨q.1, fun c => absurd (Int32.le_refl _) c⟩
  unfold wp_X9_laysNodes_34b
  refine ⟨fun c => ?_, fun c => ?_⟩
  · simp (disch := first | ((try simp (disch := first | ((try simp only [pn]) <;> omega) | fail) only [pn, pq]) <;> omega) | fail) only [pn, pq] at c
    omega
  unfold wp_X9_laysNodes_44
  refine ⟨fun k y1 y2 y3 W => x1 = y1 ∧ K9 W ∧ (F_X9_laysNodes S W ∧ NSW W) ∧ 0 ≤ y3.toInt ∧ y3.toInt ≤ (b9g_now W 9).toInt ∧ TR W x1.toInt y3.toInt ∧ (b9g_nodeMany W).toInt ≤ 64 * x1.toInt + y3.toInt ∧ (LST W (y2.toInt) (x1.toInt) (y3.toInt)) ∧ k = ((b9g_now W 9).toInt - y3.toInt).toNat, ⟨_, rfl, hK, ⟨hF, hW⟩, by decide, (K9g_now hK).2.2.2.1.1, hT, by rw [pl_0]; omega, Or.inl ⟨rfl, hl⟩, rfl⟩, ?_⟩
  rintro k y1 y2 y3 W ⟨rfl, hKW, ⟨hFW, hWW⟩, g0, g1, hTW, hmW, hlst, hk⟩
  have jn := (K9g_now hKW).2.2.2.1
  have jm := K9g_nodeMany hKW
  have e3 := pt_clamp g0
  have hN := K9g_ND hKW
  have e9 : b9g_now W ((9 : Int32)).toNatClampNeg = b9g_now W 9 := rfl
  have e31 : (y3 + 1).toInt = y3.toInt + 1 := by rw [pt_add (by rw [pl_1]; omega) (by rw [pl_1]; omega), pl_1]
  unfold wp_X9_laysNodes_44b
  refine ⟨pt_in (by decide) (by decide), fun c1 => ?_, fun c1 => ?_⟩
  · simp (disch := first | ((try simp (disch := first | ((try simp only [pn]) <;> omega) | fail) only [pn, pq]) <;> omega) | fail) only [pn, pq] at c1
    have e11 : (x1 + 1).toInt = x1.toInt + 1 := by rw [pt_add (by rw [pl_1]; omega) (by rw [pl_1]; omega), pl_1]
    refine ⟨_, ?_, hKW, ⟨hFW, hWW⟩, by omega, by omega, ⟨hTW.1, ?_, hTW.2.2⟩, by omega, ?_, rfl⟩
    · omega
    · intro l i q0 q1 q2 q3
      exact hTW.2.1 l i q0 q1 q2 (by omega)
    · intro x hx
      rcases hlst with ⟨_, h⟩ | ⟨z, z1, z2, _⟩
      · have := h x hx
        omega
      · have : x = z := by omega
        subst this
        omega
  · simp (disch := first | ((try simp (disch := first | ((try simp only [pn]) <;> omega) | fail) only [pn, pq]) <;> omega) | fail) only [pn, pq] at c1
    have same : ∀ (b : Int32), (LST W (b.toInt) (x1.toInt) ((y3.toInt + 1))) → (∀ l : Int, 0 ≤ l → l < (b9g_beginning W y3.toNatClampNeg).toInt → l = x1.toInt → ∃ y : Nat, (y : Int) < (b9g_nodeMany W).toInt ∧ (b9g_nodeLevel W y).toInt = l ∧ (b9g_nodeLeaf W y).toInt ≤ y3.toNatClampNeg ∧ (y3.toNatClampNeg : Int) < (b9g_nodeLeaf W y).toInt + (b9g_nodeLeaves W y).toInt) → wp_X9_laysNodes_158 W x1 b y3 Q (fun x1_1 S_1 => ∃ n2 : Nat, n2 < n ∧ K9 S_1 ∧ (F_X9_laysNodes S S_1 ∧ NSW S_1) ∧ 0 ≤ x1_1.toInt ∧ x1_1.toInt ≤ 8 ∧ TR S_1 x1_1.toInt 0 ∧ (b9g_nodeMany S_1).toInt ≤ 64 * x1_1.toInt ∧ (∀ x : Nat, (x : Int) + 1 = (b9g_nodeMany S_1).toInt → (b9g_nodeLevel S_1 x).toInt < x1_1.toInt) ∧ n2 = (8 - x1_1.toInt).toNat) (fun z1 z2 z3 Z => ∃ n2 : Nat, n2 < k ∧ x1 = z1 ∧ K9 Z ∧ (F_X9_laysNodes S Z ∧ NSW Z) ∧ 0 ≤ z3.toInt ∧ z3.toInt ≤ (b9g_now Z 9).toInt ∧ TR Z x1.toInt z3.toInt ∧ (b9g_nodeMany Z).toInt ≤ 64 * x1.toInt + z3.toInt ∧ (LST Z (z2.toInt) (x1.toInt) (z3.toInt)) ∧ n2 = ((b9g_now Z 9).toInt - z3.toInt).toNat) := by
      intro b hb hnew
      unfold wp_X9_laysNodes_158
      refine ⟨_, ?_, rfl, hKW, ⟨hFW, hWW⟩, by omega, by omega, ⟨hTW.1, ?_, hTW.2.2⟩, by omega, ?_, rfl⟩
      · omega
      · intro l i q0 q1 q2 q3
        by_cases ei : i = y3.toNatClampNeg ∧ l = x1.toInt
        · obtain ⟨ei1, ei2⟩ := ei
          subst ei1
          exact hnew l q0 q2 ei2
        · exact hTW.2.1 l i q0 q1 q2 (by omega)
      · rw [e31]
        exact hb
    refine ⟨pt_in (by omega) (by omega), fun c2 => ?_, fun c2 => ⟨fun c3 => ?_, fun c3 => ?_⟩⟩
    · simp (disch := first | ((try simp (disch := first | ((try simp only [pn]) <;> omega) | fail) only [pn, pq]) <;> omega) | fail) only [pn, pq] at c2
      refine same y2 ?_ (fun l q0 q1 q2 => by omega)
      rcases hlst with h | ⟨z, z1, z2, z3, z4, z5⟩
      · exact Or.inl h
      · exact Or.inr ⟨z, z1, z2, z3, by omega, z5⟩
    · simp (disch := first | ((try simp (disch := first | ((try simp only [pn]) <;> omega) | fail) only [pn, pq]) <;> omega) | fail) only [pn, pq] at c2 c3
      refine ⟨pt_in (by omega) (by omega), ?_⟩
      intro S4 e4
      have hb4 : b9g_beginning S4 = b9g_beginning W := by rw [e4]
      have hk4 : b9g_keys S4 = b9g_keys W := by rw [e4]
      have hm4 : b9g_nodeMany S4 = b9g_nodeMany W := by rw [e4]
      have hK4 : K9 S4 := by
        rw [e4]
        refine K9s_nodeLevel hKW (fun x hx => ?_)
        have a := hN x hx
        have em := pt_clamp jm.1
        have u1 : upd (b9g_nodeLevel W) (b9g_nodeMany W).toNatClampNeg x1 x = b9g_nodeLevel W x := by unfold upd; rw [if_neg (by omega)]
        rw [u1]
        refine ⟨a.1, fun h2 => ?_⟩
        have u2 : upd (b9g_nodeLevel W) (b9g_nodeMany W).toNatClampNeg x1 (x + 1) = b9g_nodeLevel W (x + 1) := by unfold upd; rw [if_neg (by omega)]
        rw [u2]
        exact a.2 h2
      have em := pt_clamp jm.1
      refine sf_X9_firstLike hK4 (by omega) (by omega) (fun r5 f0 f1 f2 f3 => ?_)
      rw [hb4, hk4] at f2 f3
      rw [hm4]
      refine ⟨pt_in (by omega) (by omega), ?_⟩
      intro S7 e7
      have hb7 : b9g_beginning S7 = b9g_beginning W := by rw [e7, e4]
      have hk7 : b9g_keys S7 = b9g_keys W := by rw [e7, e4]
      have hn7 : b9g_now S7 = b9g_now W := by rw [e7, e4]
      have hm7 : b9g_nodeMany S7 = b9g_nodeMany W := by rw [e7, e4]
      have hL7 : b9g_nodeLevel S7 = upd (b9g_nodeLevel W) (b9g_nodeMany W).toNatClampNeg x1 := by rw [e7, e4]
      have hF7 : b9g_nodeLeaf S7 = upd (b9g_nodeLeaf W) (b9g_nodeMany W).toNatClampNeg r5 := by rw [e7, e4]
      have hlf7 : b9g_nodeLeaf S7 (b9g_nodeMany W).toNatClampNeg = r5 := by rw [hF7]; unfold upd; rw [if_pos rfl]
      have hK7 : K9 S7 := by
        have hN4 := K9g_ND hK4
        rw [hm4] at hN4
        rw [e7]
        refine K9s_nodeLeaf hK4 (fun x hx => ?_)
        rw [hm4] at hx
        have a := hN4 x hx
        have u1 : upd (b9g_nodeLeaf S4) (b9g_nodeMany W).toNatClampNeg r5 x = b9g_nodeLeaf S4 x := by unfold upd; rw [if_neg (by omega)]
        rw [hm4, u1]
        refine ⟨a.1, fun h2 => ?_⟩
        have u2 : upd (b9g_nodeLeaf S4) (b9g_nodeMany W).toNatClampNeg r5 (x + 1) = b9g_nodeLeaf S4 (x + 1) := by unfold upd; rw [if_neg (by omega)]
        rw [u2]
        exact a.2 h2
      rw [hm7, hlf7]
      refine ⟨pt_in (by omega) (by omega), ?_⟩
      refine sf_X9_manyLike hK7 f0 (by rw [hn7]; omega) (by omega) (fun r8 m0 m1 m2 m3 => ?_)
      rw [hb7, hk7] at m2 m3
      rw [hn7] at m1 m3
      refine ⟨pt_in (by omega) (by omega), ?_⟩
      intro S10 e10
      have hb10 : b9g_beginning S10 = b9g_beginning W := by rw [e10, e7, e4]
      have hk10 : b9g_keys S10 = b9g_keys W := by rw [e10, e7, e4]
      have hn10 : b9g_now S10 = b9g_now W := by rw [e10, e7, e4]
      have hm10 : b9g_nodeMany S10 = b9g_nodeMany W := by rw [e10]; exact hm7
      have hL10 : b9g_nodeLevel S10 = upd (b9g_nodeLevel W) (b9g_nodeMany W).toNatClampNeg x1 := by rw [e10]; exact hL7
      have hF10 : b9g_nodeLeaf S10 = upd (b9g_nodeLeaf W) (b9g_nodeMany W).toNatClampNeg r5 := by rw [e10]; exact hF7
      have hS10 : b9g_nodeLeaves S10 = upd (b9g_nodeLeaves W) (b9g_nodeMany W).toNatClampNeg r8 := by rw [e10, e7, e4]
      have hlf10 : b9g_nodeLeaf S10 (b9g_nodeMany W).toNatClampNeg = r5 := by rw [hF10]; unfold upd; rw [if_pos rfl]
      have hls10 : b9g_nodeLeaves S10 (b9g_nodeMany W).toNatClampNeg = r8 := by rw [hS10]; unfold upd; rw [if_pos rfl]
      have hlv10 : b9g_nodeLevel S10 (b9g_nodeMany W).toNatClampNeg = x1 := by rw [hL10]; unfold upd; rw [if_pos rfl]
      have hK10 : K9 S10 := by
        have hN7 := K9g_ND hK7
        rw [hm7] at hN7
        rw [e10]
        refine K9s_nodeLeaves hK7 (fun x hx => ?_)
        rw [hm7] at hx
        have a := hN7 x hx
        have u1 : upd (b9g_nodeLeaves S7) (b9g_nodeMany W).toNatClampNeg r8 x = b9g_nodeLeaves S7 x := by unfold upd; rw [if_neg (by omega)]
        rw [hm7, u1]
        exact ⟨a.1, a.2⟩
      rw [hm10, hlf10, hls10]
      refine ⟨pt_in (by omega) (by omega), pt_in (by omega) (by omega), ?_⟩
      intro v11 e11 S12 e12 S13 e13
      have ev : v11.toInt = r5.toInt + r8.toInt := by rw [e11]; exact pt_add (by omega) (by omega)
      have er5 := pt_clamp f0
      -- the leaf itself is of the node
      have hin : (y3.toNatClampNeg : Int) < r5.toInt + r8.toInt := by
        refine node_new (A := AK (b9g_keys W) x1) (beg := fun j => (b9g_beginning W j).toInt) (L := x1.toInt) (n := (b9g_now W 9).toInt) AK_refl AK_symm AK_trans (by omega) (by show x1.toInt < _; omega) f0 (by omega) ?_ m0 ?_
        · intro j q1 q2
          exact f2 j q1 (by omega)
        · intro e q1 q2 q3
          exact m3 e q1 q2 q3
      have hlink : ∀ x : Nat, (x : Int) + 1 = (b9g_nodeMany W).toInt → 64 * (b9g_nodeLevel W x).toInt + (b9g_nodeLeaf W x).toInt + (b9g_nodeLeaves W x).toInt ≤ 64 * x1.toInt + r5.toInt := by
        intro x hx
        have ax := (hN x (by omega)).1
        rcases hlst with ⟨_, h⟩ | ⟨z, z1, z2, z3, z4, z5⟩
        · have := h x hx
          omega
        · have exz : x = z := by omega
          subst exz
          have elv : b9g_nodeLevel W x = x1 := Int32.toInt_inj.mp z2
          have hap : (b9g_nodeLeaf W x).toInt + (b9g_nodeLeaves W x).toInt ≤ r5.toInt := by
            refine node_apart (A := AK (b9g_keys W) x1) (beg := fun j => (b9g_beginning W j).toInt) (L := x1.toInt) (n := (b9g_now W 9).toInt) (i := y3.toNatClampNeg) AK_symm AK_trans AK_refl (by omega) (by show x1.toInt < _; omega) f0 ?_ ax.2.2.1 ax.2.2.2.2.1 ?_ ?_ (by omega)
            · intro j q1 q2
              exact f2 j q1 (by omega)
            · intro j q1 q2
              have q := ((hTW.1 x (by omega)).1 j q1 q2).2
              rw [elv] at q
              exact q
            · intro e q1 q2 q3
              have q := z5 e (by omega) q2 q3
              rw [elv] at q
              exact q
          omega
      have hold : ∀ x : Nat, (x : Int) < (b9g_nodeMany W).toInt → b9g_nodeLevel S10 x = b9g_nodeLevel W x ∧ b9g_nodeLeaf S10 x = b9g_nodeLeaf W x ∧ b9g_nodeLeaves S10 x = b9g_nodeLeaves W x := by
        intro x hx
        rw [hL10, hF10, hS10]
        unfold upd
        rw [if_neg (by omega), if_neg (by omega), if_neg (by omega)]
        exact ⟨rfl, rfl, rfl⟩
      have em2 : (b9g_nodeMany W + 1).toInt = (b9g_nodeMany W).toInt + 1 := by rw [pt_add (by rw [pl_1]; omega) (by rw [pl_1]; omega), pl_1]
      have hND : ND (b9g_nodeLevel S10) (b9g_nodeLeaf S10) (b9g_nodeLeaves S10) (b9g_nodeMany W + 1) := ND_push hN jm.1 em2 hold (by rw [hlv10]) (by rw [hlf10]) (by rw [hls10]) ⟨by omega, by omega⟩ ⟨by omega, by omega⟩ ⟨by omega, by omega⟩ hlink
      have hK13 : K9 S13 := by
        rw [e13, e12]
        have e11' : (x1 + 1).toInt = x1.toInt + 1 := by rw [pt_add (by rw [pl_1]; omega) (by rw [pl_1]; omega), pl_1]
        exact K9s_levelMany (K9s_nodeMany hK10 ⟨by omega, by omega⟩ hND) ⟨by omega, by omega⟩
      have hF13 : F_X9_laysNodes S S13 := by rw [e13, e12, e10, e7, e4]; exact hFW
      have hm13 : b9g_nodeMany S13 = b9g_nodeMany W + 1 := by rw [e13, e12]
      have hL13 : b9g_nodeLevel S13 = b9g_nodeLevel S10 := by rw [e13, e12]
      have hF13b : b9g_nodeLeaf S13 = b9g_nodeLeaf S10 := by rw [e13, e12]
      have hS13 : b9g_nodeLeaves S13 = b9g_nodeLeaves S10 := by rw [e13, e12]
      have hb13 : b9g_beginning S13 = b9g_beginning W := by rw [e13, e12]; exact hb10
      have hk13 : b9g_keys S13 = b9g_keys W := by rw [e13, e12]; exact hk10
      have hn13 : b9g_now S13 = b9g_now W := by rw [e13, e12]; exact hn10
      have hi13 : b9g_isLaid S13 = b9g_isLaid W := by rw [e13, e12, e10, e7, e4]
      have hc13 : b9g_common S13 = b9g_common W := by rw [e13, e12, e10, e7, e4]
      have hl13 : b9g_lengths S13 = b9g_lengths W := by rw [e13, e12, e10, e7, e4]
      have hT13 : TR S13 x1.toInt (y3.toInt + 1) := by
        have LD13 : LD (b9g_isLaid S13) (b9g_common S13) (b9g_beginning W) (b9g_keys W) (b9g_lengths S13) (b9g_now W 9) := by
          rw [hi13, hc13, hl13]
          exact hTW.2.2.2
        unfold TR
        rw [hm13, hL13, hF13b, hS13, hb13, hk13, hn13]
        refine ⟨NM_push hTW.1 jm.1 em2 hold hlv10 hlf10 hls10 ?_ ?_, NC_push hTW.2.1 jm.1 em2 hold (by rw [hlv10]) rfl ⟨by rw [hlf10]; omega, by rw [hlf10, hls10]; omega⟩, NE_push hTW.2.2.1 jm.1 em2 (fun x hx => (hold x hx).2) (by rw [hlf10, hls10]; exact m1), LD13⟩
        · intro j q1 q2
          exact m2 j q1 q2
        · intro j q1 q2 q3
          refine f3 j q1 q2 ?_
          by_cases ej : j + 1 = y3.toNatClampNeg
          · rw [← ej]; exact q3
          · exact AK_trans q3 (f2 (j + 1) (by omega) (by omega)).2
      unfold wp_X9_laysNodes_158
      have e131 : (x1 + 1).toInt = x1.toInt + 1 := by rw [pt_add (by rw [pl_1]; omega) (by rw [pl_1]; omega), pl_1]
      have hW13 : NSW S13 := by
        refine ⟨?_, fun z => ?_, fun x hx => ?_, ?_, ?_⟩
        · rw [hm13, hL13, hF13b, hS13, hb13]
          exact NSD_push hWW.1 jm.1 em2 hold ⟨y3.toNatClampNeg, by rw [hlf10]; omega, by rw [hlf10, hls10]; exact hin, by rw [hlv10]; omega⟩
        · rw [hm13, em2] at z
          omega
        · rw [hm13, em2] at hx
          rw [hL13, show x = (b9g_nodeMany W).toNatClampNeg by omega, hlv10, show b9g_levelMany S13 = x1 + 1 by rw [e13]]
          exact e131
        · rw [show b9g_areNodesLaid S13 = b9g_areNodesLaid W by rw [e13, e12, e10, e7, e4], show b9g_laidFor S13 = b9g_laidFor W by rw [e13, e12, e10, e7, e4]]
          exact hWW.2.2.2.1
        · rw [hi13]
          exact hWW.2.2.2.2
      refine ⟨_, ?_, rfl, hK13, ⟨hF13, hW13⟩, by omega, by rw [hn13]; omega, by rw [e31]; exact hT13, by rw [hm13, em2]; omega, ?_, rfl⟩
      · rw [hn13]
        omega
      · refine Or.inr ⟨(b9g_nodeMany W).toNatClampNeg, by rw [hm13, em2]; omega, by rw [hL13, hlv10], by rw [hF13b, hS13, hlf10, hls10]; exact ev, by rw [hF13b, hlf10]; omega, ?_⟩
        rw [hn13, hb13, hk13, hL13, hF13b, hlf10, hlv10]
        intro e q1 q2 q3
        exact m3 e (by omega) q2 q3
    · simp (disch := first | ((try simp (disch := first | ((try simp only [pn]) <;> omega) | fail) only [pn, pq]) <;> omega) | fail) only [pn, pq] at c3
      rcases hlst with ⟨h, _⟩ | ⟨z, z1, z2, z3, z4, z5⟩
      · omega
      · refine same y2 (Or.inr ⟨z, z1, z2, z3, by omega, z5⟩) (fun l q0 q1 q2 => ⟨z, by omega, by omega, by omega, by omega⟩)
set_option maxRecDepth 20000 in
set_option maxHeartbeats 8000000 in
theorem sf_X9_kidMany {S : bT9} (hJ : K9 S) {a1 : Int32} {Q : Int32 → Prop} (hp0 : 0 ≤ a1.toInt) (hp1 : a1.toInt < (b9g_nodeMany S).toInt) (hq : ∀ r : Int32, (0 ≤ r.toInt) → (r.toInt ≤ (b9g_nodeLeaves S a1.toNatClampNeg).toInt) → (r.toInt ≤ 64) → Q r) : wp_X9_kidMany S a1 Q := by
  unfold wp_X9_kidMany
  have jf1 := K9g_nodeMany hJ
  have jf2 : (-4 ≤ ((b9g_now S) 1).toInt ∧ ((b9g_now S) 1).toInt ≤ 4) ∧ (-3 ≤ ((b9g_now S) 4).toInt ∧ ((b9g_now S) 4).toInt ≤ 252) ∧ (0 ≤ ((b9g_now S) 8).toInt ∧ ((b9g_now S) 8).toInt ≤ 64) ∧ (0 ≤ ((b9g_now S) 9).toInt ∧ ((b9g_now S) 9).toInt ≤ 64) ∧ (0 ≤ ((b9g_now S) 10).toInt ∧ ((b9g_now S) 10).toInt ≤ 16) ∧ (0 ≤ ((b9g_now S) 12).toInt ∧ ((b9g_now S) 12).toInt ≤ 8) := K9g_now hJ
  have rga1 := pt_rg a1
  have jx := ND_at (K9g_ND hJ) hp0 hp1
  refine ⟨pt_in (by (try simp (disch := first | ((try simp (disch := first | ((try simp only [pn]) <;> omega) | fail) only [pn, pq]) <;> omega) | fail) only [pn, pq]) <;> (intros; (try simp (disch := first | ((try simp (disch := first | ((try simp only [pn]) <;> omega) | fail) only [pn, pq]) <;> omega) | fail) only [pn, pq]) <;> omega)) (by (try simp (disch := first | ((try simp (disch := first | ((try simp only [pn]) <;> omega) | fail) only [pn, pq]) <;> omega) | fail) only [pn, pq]) <;> (intros; (try simp (disch := first | ((try simp (disch := first | ((try simp only [pn]) <;> omega) | fail) only [pn, pq]) <;> omega) | fail) only [pn, pq]) <;> omega)), ?_⟩
  have jr3 := ND_at (K9g_ND hJ) (x := a1) (by (try simp (disch := first | ((try simp (disch := first | ((try simp only [pn]) <;> omega) | fail) only [pn, pq]) <;> omega) | fail) only [pn, pq]) <;> (intros; (try simp (disch := first | ((try simp (disch := first | ((try simp only [pn]) <;> omega) | fail) only [pn, pq]) <;> omega) | fail) only [pn, pq]) <;> omega)) (by (try simp (disch := first | ((try simp (disch := first | ((try simp only [pn]) <;> omega) | fail) only [pn, pq]) <;> omega) | fail) only [pn, pq]) <;> (intros; (try simp (disch := first | ((try simp (disch := first | ((try simp only [pn]) <;> omega) | fail) only [pn, pq]) <;> omega) | fail) only [pn, pq]) <;> omega))
  try simp (disch := first | ((try simp (disch := first | ((try simp only [pn]) <;> omega) | fail) only [pn, pq]) <;> omega) | fail) only [pn, pq] at jr3
  refine ⟨fun n x1q1 x2q1 x3q1 => (x1q1 = a1) ∧ ((b9g_nodeLeaf S (x1q1).toNatClampNeg).toInt ≤ (x3q1).toInt) ∧ ((x3q1).toInt ≤ (b9g_nodeLeaf S (x1q1).toNatClampNeg).toInt + (b9g_nodeLeaves S (x1q1).toNatClampNeg).toInt) ∧ (0 ≤ (x2q1).toInt) ∧ ((x2q1).toInt ≤ (x3q1).toInt - (b9g_nodeLeaf S (x1q1).toNatClampNeg).toInt) ∧ n = ((b9g_nodeLeaf S (x1q1).toNatClampNeg).toInt + (b9g_nodeLeaves S (x1q1).toNatClampNeg).toInt - (x3q1).toInt).toNat, ⟨_, rfl, (by (try simp (disch := first | ((try simp (disch := first | ((try simp only [pn]) <;> omega) | fail) only [pn, pq]) <;> omega) | fail) only [pn, pq]) <;> (intros; (try simp (disch := first | ((try simp (disch := first | ((try simp only [pn]) <;> omega) | fail) only [pn, pq]) <;> omega) | fail) only [pn, pq]) <;> omega)), (by (try simp (disch := first | ((try simp (disch := first | ((try simp only [pn]) <;> omega) | fail) only [pn, pq]) <;> omega) | fail) only [pn, pq]) <;> (intros; (try simp (disch := first | ((try simp (disch := first | ((try simp only [pn]) <;> omega) | fail) only [pn, pq]) <;> omega) | fail) only [pn, pq]) <;> omega)), (by (try simp (disch := first | ((try simp (disch := first | ((try simp only [pn]) <;> omega) | fail) only [pn, pq]) <;> omega) | fail) only [pn, pq]) <;> (intros; (try simp (disch := first | ((try simp (disch := first | ((try simp only [pn]) <;> omega) | fail) only [pn, pq]) <;> omega) | fail) only [pn, pq]) <;> omega)), (by (try simp (disch := first | ((try simp (disch := first | ((try simp only [pn]) <;> omega) | fail) only [pn, pq]) <;> omega) | fail) only [pn, pq]) <;> (intros; (try simp (disch := first | ((try simp (disch := first | ((try simp only [pn]) <;> omega) | fail) only [pn, pq]) <;> omega) | fail) only [pn, pq]) <;> omega)), rfl⟩, ?_⟩
  rintro n2 x1q1 x2q1 x3q1 ⟨hkq1_0, hiq1_0, hiq1_1, hiq1_2, hiq1_3, hn2⟩
  subst hkq1_0
  have rgx1q1 := pt_rg x1q1
  have rgx2q1 := pt_rg x2q1
  have rgx3q1 := pt_rg x3q1
  unfold wp_X9_kidMany_9b
  refine sf_X9_lastOf hJ (by (try simp (disch := first | ((try simp (disch := first | ((try simp only [pn]) <;> omega) | fail) only [pn, pq]) <;> omega) | fail) only [pn, pq]) <;> (intros; (try simp (disch := first | ((try simp (disch := first | ((try simp only [pn]) <;> omega) | fail) only [pn, pq]) <;> omega) | fail) only [pn, pq]) <;> omega)) (by (try simp (disch := first | ((try simp (disch := first | ((try simp only [pn]) <;> omega) | fail) only [pn, pq]) <;> omega) | fail) only [pn, pq]) <;> (intros; (try simp (disch := first | ((try simp (disch := first | ((try simp only [pn]) <;> omega) | fail) only [pn, pq]) <;> omega) | fail) only [pn, pq]) <;> omega)) (fun r3 hr3_0 hr3_1 => ?_)
  have rgr3 := pt_rg r3
  try simp (disch := first | ((try simp (disch := first | ((try simp only [pn]) <;> omega) | fail) only [pn, pq]) <;> omega) | fail) only [pn, pq] at hr3_0
  try simp (disch := first | ((try simp (disch := first | ((try simp only [pn]) <;> omega) | fail) only [pn, pq]) <;> omega) | fail) only [pn, pq] at hr3_1
  refine ⟨fun c5 => ?_, fun c5 => ?_⟩
  · try simp (disch := first | ((try simp (disch := first | ((try simp only [pn]) <;> omega) | fail) only [pn, pq]) <;> omega) | fail) only [pn, pq] at c5
    exact hq _ (by (try simp (disch := first | ((try simp (disch := first | ((try simp only [pn]) <;> omega) | fail) only [pn, pq]) <;> omega) | fail) only [pn, pq]) <;> (intros; (try simp (disch := first | ((try simp (disch := first | ((try simp only [pn]) <;> omega) | fail) only [pn, pq]) <;> omega) | fail) only [pn, pq]) <;> omega)) (by (try simp (disch := first | ((try simp (disch := first | ((try simp only [pn]) <;> omega) | fail) only [pn, pq]) <;> omega) | fail) only [pn, pq]) <;> (intros; (try simp (disch := first | ((try simp (disch := first | ((try simp only [pn]) <;> omega) | fail) only [pn, pq]) <;> omega) | fail) only [pn, pq]) <;> omega)) (by (try simp (disch := first | ((try simp (disch := first | ((try simp only [pn]) <;> omega) | fail) only [pn, pq]) <;> omega) | fail) only [pn, pq]) <;> (intros; (try simp (disch := first | ((try simp (disch := first | ((try simp only [pn]) <;> omega) | fail) only [pn, pq]) <;> omega) | fail) only [pn, pq]) <;> omega))
  · try simp (disch := first | ((try simp (disch := first | ((try simp only [pn]) <;> omega) | fail) only [pn, pq]) <;> omega) | fail) only [pn, pq] at c5
    refine sf_X9_isBranch hJ (by (try simp (disch := first | ((try simp (disch := first | ((try simp only [pn]) <;> omega) | fail) only [pn, pq]) <;> omega) | fail) only [pn, pq]) <;> (intros; (try simp (disch := first | ((try simp (disch := first | ((try simp only [pn]) <;> omega) | fail) only [pn, pq]) <;> omega) | fail) only [pn, pq]) <;> omega)) (by (try simp (disch := first | ((try simp (disch := first | ((try simp only [pn]) <;> omega) | fail) only [pn, pq]) <;> omega) | fail) only [pn, pq]) <;> (intros; (try simp (disch := first | ((try simp (disch := first | ((try simp only [pn]) <;> omega) | fail) only [pn, pq]) <;> omega) | fail) only [pn, pq]) <;> omega)) (by (try simp (disch := first | ((try simp (disch := first | ((try simp only [pn]) <;> omega) | fail) only [pn, pq]) <;> omega) | fail) only [pn, pq]) <;> (intros; (try simp (disch := first | ((try simp (disch := first | ((try simp only [pn]) <;> omega) | fail) only [pn, pq]) <;> omega) | fail) only [pn, pq]) <;> omega)) (by (try simp (disch := first | ((try simp (disch := first | ((try simp only [pn]) <;> omega) | fail) only [pn, pq]) <;> omega) | fail) only [pn, pq]) <;> (intros; (try simp (disch := first | ((try simp (disch := first | ((try simp only [pn]) <;> omega) | fail) only [pn, pq]) <;> omega) | fail) only [pn, pq]) <;> omega)) (fun r6 hzr6 hr6_0 => ?_)
    try simp (disch := first | ((try simp (disch := first | ((try simp only [pn]) <;> omega) | fail) only [pn, pq]) <;> omega) | fail) only [pn, pq] at hr6_0
    refine ⟨fun c8 => ?_, fun c8 => ?_⟩
    · try simp (disch := first | ((try simp (disch := first | ((try simp only [pn]) <;> omega) | fail) only [pn, pq]) <;> omega) | fail) only [pn, pq] at c8
      unfold wp_X9_kidMany_41
      refine ⟨_, ?_, ?_, ?_, ?_, ?_, ?_, rfl⟩
      · (try simp (disch := first | ((try simp (disch := first | ((try simp only [pn]) <;> omega) | fail) only [pn, pq]) <;> omega) | fail) only [pn, pq]) <;> (intros; (try simp (disch := first | ((try simp (disch := first | ((try simp only [pn]) <;> omega) | fail) only [pn, pq]) <;> omega) | fail) only [pn, pq]) <;> omega)
      · first | rfl | assumption
      · (try simp (disch := first | ((try simp (disch := first | ((try simp only [pn]) <;> omega) | fail) only [pn, pq]) <;> omega) | fail) only [pn, pq]) <;> (intros; (try simp (disch := first | ((try simp (disch := first | ((try simp only [pn]) <;> omega) | fail) only [pn, pq]) <;> omega) | fail) only [pn, pq]) <;> omega)
      · (try simp (disch := first | ((try simp (disch := first | ((try simp only [pn]) <;> omega) | fail) only [pn, pq]) <;> omega) | fail) only [pn, pq]) <;> (intros; (try simp (disch := first | ((try simp (disch := first | ((try simp only [pn]) <;> omega) | fail) only [pn, pq]) <;> omega) | fail) only [pn, pq]) <;> omega)
      · (try simp (disch := first | ((try simp (disch := first | ((try simp only [pn]) <;> omega) | fail) only [pn, pq]) <;> omega) | fail) only [pn, pq]) <;> (intros; (try simp (disch := first | ((try simp (disch := first | ((try simp only [pn]) <;> omega) | fail) only [pn, pq]) <;> omega) | fail) only [pn, pq]) <;> omega)
      · (try simp (disch := first | ((try simp (disch := first | ((try simp only [pn]) <;> omega) | fail) only [pn, pq]) <;> omega) | fail) only [pn, pq]) <;> (intros; (try simp (disch := first | ((try simp (disch := first | ((try simp only [pn]) <;> omega) | fail) only [pn, pq]) <;> omega) | fail) only [pn, pq]) <;> omega)
    · try simp (disch := first | ((try simp (disch := first | ((try simp only [pn]) <;> omega) | fail) only [pn, pq]) <;> omega) | fail) only [pn, pq] at c8
      refine sf_X9_childAt hJ (by (try simp (disch := first | ((try simp (disch := first | ((try simp only [pn]) <;> omega) | fail) only [pn, pq]) <;> omega) | fail) only [pn, pq]) <;> (intros; (try simp (disch := first | ((try simp (disch := first | ((try simp only [pn]) <;> omega) | fail) only [pn, pq]) <;> omega) | fail) only [pn, pq]) <;> omega)) (by (try simp (disch := first | ((try simp (disch := first | ((try simp only [pn]) <;> omega) | fail) only [pn, pq]) <;> omega) | fail) only [pn, pq]) <;> (intros; (try simp (disch := first | ((try simp (disch := first | ((try simp only [pn]) <;> omega) | fail) only [pn, pq]) <;> omega) | fail) only [pn, pq]) <;> omega)) (fun r9 hr9_0 => ?_)
      have rgr9 := pt_rg r9
      try simp (disch := first | ((try simp (disch := first | ((try simp only [pn]) <;> omega) | fail) only [pn, pq]) <;> omega) | fail) only [pn, pq] at hr9_0
      refine ⟨fun c11 => ?_, fun c11 => ?_⟩
      · try simp (disch := first | ((try simp (disch := first | ((try simp only [pn]) <;> omega) | fail) only [pn, pq]) <;> omega) | fail) only [pn, pq] at c11
        unfold wp_X9_kidMany_41
        refine ⟨_, ?_, ?_, ?_, ?_, ?_, ?_, rfl⟩
        · (try simp (disch := first | ((try simp (disch := first | ((try simp only [pn]) <;> omega) | fail) only [pn, pq]) <;> omega) | fail) only [pn, pq]) <;> (intros; (try simp (disch := first | ((try simp (disch := first | ((try simp only [pn]) <;> omega) | fail) only [pn, pq]) <;> omega) | fail) only [pn, pq]) <;> omega)
        · first | rfl | assumption
        · (try simp (disch := first | ((try simp (disch := first | ((try simp only [pn]) <;> omega) | fail) only [pn, pq]) <;> omega) | fail) only [pn, pq]) <;> (intros; (try simp (disch := first | ((try simp (disch := first | ((try simp only [pn]) <;> omega) | fail) only [pn, pq]) <;> omega) | fail) only [pn, pq]) <;> omega)
        · (try simp (disch := first | ((try simp (disch := first | ((try simp only [pn]) <;> omega) | fail) only [pn, pq]) <;> omega) | fail) only [pn, pq]) <;> (intros; (try simp (disch := first | ((try simp (disch := first | ((try simp only [pn]) <;> omega) | fail) only [pn, pq]) <;> omega) | fail) only [pn, pq]) <;> omega)
        · (try simp (disch := first | ((try simp (disch := first | ((try simp only [pn]) <;> omega) | fail) only [pn, pq]) <;> omega) | fail) only [pn, pq]) <;> (intros; (try simp (disch := first | ((try simp (disch := first | ((try simp only [pn]) <;> omega) | fail) only [pn, pq]) <;> omega) | fail) only [pn, pq]) <;> omega)
        · (try simp (disch := first | ((try simp (disch := first | ((try simp only [pn]) <;> omega) | fail) only [pn, pq]) <;> omega) | fail) only [pn, pq]) <;> (intros; (try simp (disch := first | ((try simp (disch := first | ((try simp only [pn]) <;> omega) | fail) only [pn, pq]) <;> omega) | fail) only [pn, pq]) <;> omega)
      · try simp (disch := first | ((try simp (disch := first | ((try simp only [pn]) <;> omega) | fail) only [pn, pq]) <;> omega) | fail) only [pn, pq] at c11
        unfold wp_X9_kidMany_41
        refine ⟨_, ?_, ?_, ?_, ?_, ?_, ?_, rfl⟩
        · (try simp (disch := first | ((try simp (disch := first | ((try simp only [pn]) <;> omega) | fail) only [pn, pq]) <;> omega) | fail) only [pn, pq]) <;> (intros; (try simp (disch := first | ((try simp (disch := first | ((try simp only [pn]) <;> omega) | fail) only [pn, pq]) <;> omega) | fail) only [pn, pq]) <;> omega)
        · first | rfl | assumption
        · (try simp (disch := first | ((try simp (disch := first | ((try simp only [pn]) <;> omega) | fail) only [pn, pq]) <;> omega) | fail) only [pn, pq]) <;> (intros; (try simp (disch := first | ((try simp (disch := first | ((try simp only [pn]) <;> omega) | fail) only [pn, pq]) <;> omega) | fail) only [pn, pq]) <;> omega)
        · (try simp (disch := first | ((try simp (disch := first | ((try simp only [pn]) <;> omega) | fail) only [pn, pq]) <;> omega) | fail) only [pn, pq]) <;> (intros; (try simp (disch := first | ((try simp (disch := first | ((try simp only [pn]) <;> omega) | fail) only [pn, pq]) <;> omega) | fail) only [pn, pq]) <;> omega)
        · (try simp (disch := first | ((try simp (disch := first | ((try simp only [pn]) <;> omega) | fail) only [pn, pq]) <;> omega) | fail) only [pn, pq]) <;> (intros; (try simp (disch := first | ((try simp (disch := first | ((try simp only [pn]) <;> omega) | fail) only [pn, pq]) <;> omega) | fail) only [pn, pq]) <;> omega)
        · (try simp (disch := first | ((try simp (disch := first | ((try simp only [pn]) <;> omega) | fail) only [pn, pq]) <;> omega) | fail) only [pn, pq]) <;> (intros; (try simp (disch := first | ((try simp (disch := first | ((try simp only [pn]) <;> omega) | fail) only [pn, pq]) <;> omega) | fail) only [pn, pq]) <;> omega)
def F_X9_nodes (S u : bT9) : Prop := (b9g_told u) = (b9g_told S) ∧ (b9g_now u) = (b9g_now S) ∧ (b9g_keys u) = (b9g_keys S) ∧ (b9g_lengths u) = (b9g_lengths S) ∧ (b9g_drawn u) = (b9g_drawn S) ∧ (b9g_drawnLength u) = (b9g_drawnLength S) ∧ (b9g_tape u) = (b9g_tape S) ∧ (b9g_taped u) = (b9g_taped S) ∧ (b9g_names u) = (b9g_names S) ∧ (b9g_chosen u) = (b9g_chosen S) ∧ (b9g_lowKey u) = (b9g_lowKey S) ∧ (b9g_highKey u) = (b9g_highKey S) ∧ (b9g_lowLength u) = (b9g_lowLength S) ∧ (b9g_highLength u) = (b9g_highLength S) ∧ (b9g_fromKey u) = (b9g_fromKey S) ∧ (b9g_toKey u) = (b9g_toKey S) ∧ (b9g_fromLength u) = (b9g_fromLength S) ∧ (b9g_toLength u) = (b9g_toLength S) ∧ (b9g_ones u) = (b9g_ones S) ∧ (b9g_oneMany u) = (b9g_oneMany S) ∧ (b9g_rowLong u) = (b9g_rowLong S) ∧ (b9g_signs u) = (b9g_signs S) ∧ (b9g_signMany u) = (b9g_signMany S) ∧ (b9g_hasImage u) = (b9g_hasImage S) ∧ (b9g_images u) = (b9g_images S) ∧ (b9g_keyImages u) = (b9g_keyImages S) ∧ (b9g_lengthImages u) = (b9g_lengthImages S)
set_option maxRecDepth 20000 in
set_option maxHeartbeats 8000000 in
theorem sf_X9_nodes {S : bT9} (hJ : J9 S) {Q : Int32 → (bT9) → Prop} (hq : ∀ (r : Int32) (u : bT9), (J9 u) → F_X9_nodes S u → (r.toInt = (b9g_nodeMany u).toInt) → (T9P S → TDW S → TDW u ∧ (b9g_areNodesLaid u).toInt ≠ 0 ∧ (b9g_isLaid u).toInt ≠ 0) → Q r u) : wp_X9_nodes S Q := by
  unfold wp_X9_nodes
  have hFS : F_X9_nodes S S := ⟨rfl, rfl, rfl, rfl, rfl, rfl, rfl, rfl, rfl, rfl, rfl, rfl, rfl, rfl, rfl, rfl, rfl, rfl, rfl, rfl, rfl, rfl, rfl, rfl, rfl, rfl, rfl⟩
  have jf1 := J9g_nodeMany hJ
  have jf2 : (-4 ≤ ((b9g_now S) 1).toInt ∧ ((b9g_now S) 1).toInt ≤ 4) ∧ (-3 ≤ ((b9g_now S) 4).toInt ∧ ((b9g_now S) 4).toInt ≤ 252) ∧ (0 ≤ ((b9g_now S) 8).toInt ∧ ((b9g_now S) 8).toInt ≤ 64) ∧ (0 ≤ ((b9g_now S) 9).toInt ∧ ((b9g_now S) 9).toInt ≤ 64) ∧ (0 ≤ ((b9g_now S) 10).toInt ∧ ((b9g_now S) 10).toInt ≤ 16) ∧ (0 ≤ ((b9g_now S) 12).toInt ∧ ((b9g_now S) 12).toInt ≤ 8) := J9g_now hJ
  have ju2_S := hJ.2.1
  refine sf_X9_laysNodes hJ (fun u2 hJu2 hfu2 hr1_0 => ?_)
  have hFu2 : F_X9_nodes S u2 := ⟨(congrArg (fun z => z) hfu2.1).trans hFS.1, (congrArg (fun z => z) hfu2.2.1).trans hFS.2.1, (congrArg (fun z => z) hfu2.2.2.1).trans hFS.2.2.1, (congrArg (fun z => z) hfu2.2.2.2.1).trans hFS.2.2.2.1, (congrArg (fun z => z) hfu2.2.2.2.2.1).trans hFS.2.2.2.2.1, (congrArg (fun z => z) hfu2.2.2.2.2.2.1).trans hFS.2.2.2.2.2.1, (congrArg (fun z => z) hfu2.2.2.2.2.2.2.1).trans hFS.2.2.2.2.2.2.1, (congrArg (fun z => z) hfu2.2.2.2.2.2.2.2.1).trans hFS.2.2.2.2.2.2.2.1, (congrArg (fun z => z) hfu2.2.2.2.2.2.2.2.2.1).trans hFS.2.2.2.2.2.2.2.2.1, (congrArg (fun z => z) hfu2.2.2.2.2.2.2.2.2.2.1).trans hFS.2.2.2.2.2.2.2.2.2.1, (congrArg (fun z => z) hfu2.2.2.2.2.2.2.2.2.2.2.1).trans hFS.2.2.2.2.2.2.2.2.2.2.1, (congrArg (fun z => z) hfu2.2.2.2.2.2.2.2.2.2.2.2.1).trans hFS.2.2.2.2.2.2.2.2.2.2.2.1, (congrArg (fun z => z) hfu2.2.2.2.2.2.2.2.2.2.2.2.2.1).trans hFS.2.2.2.2.2.2.2.2.2.2.2.2.1, (congrArg (fun z => z) hfu2.2.2.2.2.2.2.2.2.2.2.2.2.2.1).trans hFS.2.2.2.2.2.2.2.2.2.2.2.2.2.1, (congrArg (fun z => z) hfu2.2.2.2.2.2.2.2.2.2.2.2.2.2.2.1).trans hFS.2.2.2.2.2.2.2.2.2.2.2.2.2.2.1, (congrArg (fun z => z) hfu2.2.2.2.2.2.2.2.2.2.2.2.2.2.2.2.1).trans hFS.2.2.2.2.2.2.2.2.2.2.2.2.2.2.2.1, (congrArg (fun z => z) hfu2.2.2.2.2.2.2.2.2.2.2.2.2.2.2.2.2.1).trans hFS.2.2.2.2.2.2.2.2.2.2.2.2.2.2.2.2.1, (congrArg (fun z => z) hfu2.2.2.2.2.2.2.2.2.2.2.2.2.2.2.2.2.2.1).trans hFS.2.2.2.2.2.2.2.2.2.2.2.2.2.2.2.2.2.1, (congrArg (fun z => z) hfu2.2.2.2.2.2.2.2.2.2.2.2.2.2.2.2.2.2.2.1).trans hFS.2.2.2.2.2.2.2.2.2.2.2.2.2.2.2.2.2.2.1, (congrArg (fun z => z) hfu2.2.2.2.2.2.2.2.2.2.2.2.2.2.2.2.2.2.2.2.1).trans hFS.2.2.2.2.2.2.2.2.2.2.2.2.2.2.2.2.2.2.2.1, (congrArg (fun z => z) hfu2.2.2.2.2.2.2.2.2.2.2.2.2.2.2.2.2.2.2.2.2.1).trans hFS.2.2.2.2.2.2.2.2.2.2.2.2.2.2.2.2.2.2.2.2.1, (congrArg (fun z => z) hfu2.2.2.2.2.2.2.2.2.2.2.2.2.2.2.2.2.2.2.2.2.2.1).trans hFS.2.2.2.2.2.2.2.2.2.2.2.2.2.2.2.2.2.2.2.2.2.1, (congrArg (fun z => z) hfu2.2.2.2.2.2.2.2.2.2.2.2.2.2.2.2.2.2.2.2.2.2.2.1).trans hFS.2.2.2.2.2.2.2.2.2.2.2.2.2.2.2.2.2.2.2.2.2.2.1, (congrArg (fun z => z) hfu2.2.2.2.2.2.2.2.2.2.2.2.2.2.2.2.2.2.2.2.2.2.2.2.1).trans hFS.2.2.2.2.2.2.2.2.2.2.2.2.2.2.2.2.2.2.2.2.2.2.2.1, (congrArg (fun z => z) hfu2.2.2.2.2.2.2.2.2.2.2.2.2.2.2.2.2.2.2.2.2.2.2.2.2.1).trans hFS.2.2.2.2.2.2.2.2.2.2.2.2.2.2.2.2.2.2.2.2.2.2.2.2.1, (congrArg (fun z => z) hfu2.2.2.2.2.2.2.2.2.2.2.2.2.2.2.2.2.2.2.2.2.2.2.2.2.2.1).trans hFS.2.2.2.2.2.2.2.2.2.2.2.2.2.2.2.2.2.2.2.2.2.2.2.2.2.1, (congrArg (fun z => z) hfu2.2.2.2.2.2.2.2.2.2.2.2.2.2.2.2.2.2.2.2.2.2.2.2.2.2.2).trans hFS.2.2.2.2.2.2.2.2.2.2.2.2.2.2.2.2.2.2.2.2.2.2.2.2.2.2⟩
  have jf3 := J9g_nodeMany hJu2
  have je5 : ((b9g_now u2) 1).toInt = ((b9g_now S) 1).toInt := congrArg (fun z => (z 1).toInt) hFu2.2.1
  have je7 : ((b9g_now u2) 4).toInt = ((b9g_now S) 4).toInt := congrArg (fun z => (z 4).toInt) hFu2.2.1
  have je9 : ((b9g_now u2) 7).toInt = ((b9g_now S) 7).toInt := congrArg (fun z => (z 7).toInt) hFu2.2.1
  have je11 : ((b9g_now u2) 8).toInt = ((b9g_now S) 8).toInt := congrArg (fun z => (z 8).toInt) hFu2.2.1
  have je13 : ((b9g_now u2) 9).toInt = ((b9g_now S) 9).toInt := congrArg (fun z => (z 9).toInt) hFu2.2.1
  have je15 : ((b9g_now u2) 10).toInt = ((b9g_now S) 10).toInt := congrArg (fun z => (z 10).toInt) hFu2.2.1
  have je17 : ((b9g_now u2) 12).toInt = ((b9g_now S) 12).toInt := congrArg (fun z => (z 12).toInt) hFu2.2.1
  have ju17_u2 := hJu2.2.1
  exact hq _ _ hJu2 hFu2 (by (try simp (disch := first | ((try simp (disch := first | ((try simp only [pn]) <;> omega) | fail) only [pn, pq]) <;> omega) | fail) only [pn, pq]) <;> (intros; (try simp (disch := first | ((try simp (disch := first | ((try simp only [pn]) <;> omega) | fail) only [pn, pq]) <;> omega) | fail) only [pn, pq]) <;> omega)) (by (assumption))
def F_X9_isNode (S u : bT9) : Prop := (b9g_told u) = (b9g_told S) ∧ (b9g_now u) = (b9g_now S) ∧ (b9g_keys u) = (b9g_keys S) ∧ (b9g_lengths u) = (b9g_lengths S) ∧ (b9g_drawn u) = (b9g_drawn S) ∧ (b9g_drawnLength u) = (b9g_drawnLength S) ∧ (b9g_tape u) = (b9g_tape S) ∧ (b9g_taped u) = (b9g_taped S) ∧ (b9g_names u) = (b9g_names S) ∧ (b9g_chosen u) = (b9g_chosen S) ∧ (b9g_lowKey u) = (b9g_lowKey S) ∧ (b9g_highKey u) = (b9g_highKey S) ∧ (b9g_lowLength u) = (b9g_lowLength S) ∧ (b9g_highLength u) = (b9g_highLength S) ∧ (b9g_fromKey u) = (b9g_fromKey S) ∧ (b9g_toKey u) = (b9g_toKey S) ∧ (b9g_fromLength u) = (b9g_fromLength S) ∧ (b9g_toLength u) = (b9g_toLength S) ∧ (b9g_ones u) = (b9g_ones S) ∧ (b9g_oneMany u) = (b9g_oneMany S) ∧ (b9g_rowLong u) = (b9g_rowLong S) ∧ (b9g_signs u) = (b9g_signs S) ∧ (b9g_signMany u) = (b9g_signMany S) ∧ (b9g_hasImage u) = (b9g_hasImage S) ∧ (b9g_images u) = (b9g_images S) ∧ (b9g_keyImages u) = (b9g_keyImages S) ∧ (b9g_lengthImages u) = (b9g_lengthImages S)
set_option maxRecDepth 20000 in
set_option maxHeartbeats 8000000 in
theorem sf_X9_isNode {S : bT9} (hJ : J9 S) {a1 : Int32} {Q : Int32 → (bT9) → Prop} (hq : ∀ (r : Int32) (u : bT9), (J9 u) → F_X9_isNode S u → bf_bool r → (r.toInt = 0 ∨ (0 ≤ a1.toInt ∧ a1.toInt < (b9g_nodeMany u).toInt)) → (T9P S → TDW S → TDW u ∧ (b9g_areNodesLaid u).toInt ≠ 0 ∧ (b9g_isLaid u).toInt ≠ 0) → (r.toInt = 0 → a1.toInt < 0 ∨ (b9g_nodeMany u).toInt ≤ a1.toInt) → Q r u) : wp_X9_isNode S a1 Q := by
  unfold wp_X9_isNode
  have hFS : F_X9_isNode S S := ⟨rfl, rfl, rfl, rfl, rfl, rfl, rfl, rfl, rfl, rfl, rfl, rfl, rfl, rfl, rfl, rfl, rfl, rfl, rfl, rfl, rfl, rfl, rfl, rfl, rfl, rfl, rfl⟩
  have jf1 := J9g_nodeMany hJ
  have jf2 : (-4 ≤ ((b9g_now S) 1).toInt ∧ ((b9g_now S) 1).toInt ≤ 4) ∧ (-3 ≤ ((b9g_now S) 4).toInt ∧ ((b9g_now S) 4).toInt ≤ 252) ∧ (0 ≤ ((b9g_now S) 8).toInt ∧ ((b9g_now S) 8).toInt ≤ 64) ∧ (0 ≤ ((b9g_now S) 9).toInt ∧ ((b9g_now S) 9).toInt ≤ 64) ∧ (0 ≤ ((b9g_now S) 10).toInt ∧ ((b9g_now S) 10).toInt ≤ 16) ∧ (0 ≤ ((b9g_now S) 12).toInt ∧ ((b9g_now S) 12).toInt ≤ 8) := J9g_now hJ
  have ju2_S := hJ.2.1
  have rga1 := pt_rg a1
  refine sf_X9_nodes hJ (fun r1 u2 hJu2 hfu2 hr1_0 hr1_1 => ?_)
  have hFu2 : F_X9_isNode S u2 := ⟨(congrArg (fun z => z) hfu2.1).trans hFS.1, (congrArg (fun z => z) hfu2.2.1).trans hFS.2.1, (congrArg (fun z => z) hfu2.2.2.1).trans hFS.2.2.1, (congrArg (fun z => z) hfu2.2.2.2.1).trans hFS.2.2.2.1, (congrArg (fun z => z) hfu2.2.2.2.2.1).trans hFS.2.2.2.2.1, (congrArg (fun z => z) hfu2.2.2.2.2.2.1).trans hFS.2.2.2.2.2.1, (congrArg (fun z => z) hfu2.2.2.2.2.2.2.1).trans hFS.2.2.2.2.2.2.1, (congrArg (fun z => z) hfu2.2.2.2.2.2.2.2.1).trans hFS.2.2.2.2.2.2.2.1, (congrArg (fun z => z) hfu2.2.2.2.2.2.2.2.2.1).trans hFS.2.2.2.2.2.2.2.2.1, (congrArg (fun z => z) hfu2.2.2.2.2.2.2.2.2.2.1).trans hFS.2.2.2.2.2.2.2.2.2.1, (congrArg (fun z => z) hfu2.2.2.2.2.2.2.2.2.2.2.1).trans hFS.2.2.2.2.2.2.2.2.2.2.1, (congrArg (fun z => z) hfu2.2.2.2.2.2.2.2.2.2.2.2.1).trans hFS.2.2.2.2.2.2.2.2.2.2.2.1, (congrArg (fun z => z) hfu2.2.2.2.2.2.2.2.2.2.2.2.2.1).trans hFS.2.2.2.2.2.2.2.2.2.2.2.2.1, (congrArg (fun z => z) hfu2.2.2.2.2.2.2.2.2.2.2.2.2.2.1).trans hFS.2.2.2.2.2.2.2.2.2.2.2.2.2.1, (congrArg (fun z => z) hfu2.2.2.2.2.2.2.2.2.2.2.2.2.2.2.1).trans hFS.2.2.2.2.2.2.2.2.2.2.2.2.2.2.1, (congrArg (fun z => z) hfu2.2.2.2.2.2.2.2.2.2.2.2.2.2.2.2.1).trans hFS.2.2.2.2.2.2.2.2.2.2.2.2.2.2.2.1, (congrArg (fun z => z) hfu2.2.2.2.2.2.2.2.2.2.2.2.2.2.2.2.2.1).trans hFS.2.2.2.2.2.2.2.2.2.2.2.2.2.2.2.2.1, (congrArg (fun z => z) hfu2.2.2.2.2.2.2.2.2.2.2.2.2.2.2.2.2.2.1).trans hFS.2.2.2.2.2.2.2.2.2.2.2.2.2.2.2.2.2.1, (congrArg (fun z => z) hfu2.2.2.2.2.2.2.2.2.2.2.2.2.2.2.2.2.2.2.1).trans hFS.2.2.2.2.2.2.2.2.2.2.2.2.2.2.2.2.2.2.1, (congrArg (fun z => z) hfu2.2.2.2.2.2.2.2.2.2.2.2.2.2.2.2.2.2.2.2.1).trans hFS.2.2.2.2.2.2.2.2.2.2.2.2.2.2.2.2.2.2.2.1, (congrArg (fun z => z) hfu2.2.2.2.2.2.2.2.2.2.2.2.2.2.2.2.2.2.2.2.2.1).trans hFS.2.2.2.2.2.2.2.2.2.2.2.2.2.2.2.2.2.2.2.2.1, (congrArg (fun z => z) hfu2.2.2.2.2.2.2.2.2.2.2.2.2.2.2.2.2.2.2.2.2.2.1).trans hFS.2.2.2.2.2.2.2.2.2.2.2.2.2.2.2.2.2.2.2.2.2.1, (congrArg (fun z => z) hfu2.2.2.2.2.2.2.2.2.2.2.2.2.2.2.2.2.2.2.2.2.2.2.1).trans hFS.2.2.2.2.2.2.2.2.2.2.2.2.2.2.2.2.2.2.2.2.2.2.1, (congrArg (fun z => z) hfu2.2.2.2.2.2.2.2.2.2.2.2.2.2.2.2.2.2.2.2.2.2.2.2.1).trans hFS.2.2.2.2.2.2.2.2.2.2.2.2.2.2.2.2.2.2.2.2.2.2.2.1, (congrArg (fun z => z) hfu2.2.2.2.2.2.2.2.2.2.2.2.2.2.2.2.2.2.2.2.2.2.2.2.2.1).trans hFS.2.2.2.2.2.2.2.2.2.2.2.2.2.2.2.2.2.2.2.2.2.2.2.2.1, (congrArg (fun z => z) hfu2.2.2.2.2.2.2.2.2.2.2.2.2.2.2.2.2.2.2.2.2.2.2.2.2.2.1).trans hFS.2.2.2.2.2.2.2.2.2.2.2.2.2.2.2.2.2.2.2.2.2.2.2.2.2.1, (congrArg (fun z => z) hfu2.2.2.2.2.2.2.2.2.2.2.2.2.2.2.2.2.2.2.2.2.2.2.2.2.2.2).trans hFS.2.2.2.2.2.2.2.2.2.2.2.2.2.2.2.2.2.2.2.2.2.2.2.2.2.2⟩
  have je4 : ((b9g_now u2) 1).toInt = ((b9g_now S) 1).toInt := congrArg (fun z => (z 1).toInt) hFu2.2.1
  have je6 : ((b9g_now u2) 4).toInt = ((b9g_now S) 4).toInt := congrArg (fun z => (z 4).toInt) hFu2.2.1
  have je8 : ((b9g_now u2) 7).toInt = ((b9g_now S) 7).toInt := congrArg (fun z => (z 7).toInt) hFu2.2.1
  have je10 : ((b9g_now u2) 8).toInt = ((b9g_now S) 8).toInt := congrArg (fun z => (z 8).toInt) hFu2.2.1
  have je12 : ((b9g_now u2) 9).toInt = ((b9g_now S) 9).toInt := congrArg (fun z => (z 9).toInt) hFu2.2.1
  have je14 : ((b9g_now u2) 10).toInt = ((b9g_now S) 10).toInt := congrArg (fun z => (z 10).toInt) hFu2.2.1
  have je16 : ((b9g_now u2) 12).toInt = ((b9g_now S) 12).toInt := congrArg (fun z => (z 12).toInt) hFu2.2.1
  have jf17 := J9g_nodeMany hJu2
  have ju17_u2 := hJu2.2.1
  have rgr1 := pt_rg r1
  try simp (disch := first | ((try simp (disch := first | ((try simp only [pn]) <;> omega) | fail) only [pn, pq]) <;> omega) | fail) only [pn, pq] at hr1_0
  refine sf_X9_isIn hJu2.1 (fun r3 hzr3 hr3_0 => ?_)
  try simp (disch := first | ((try simp (disch := first | ((try simp only [pn]) <;> omega) | fail) only [pn, pq]) <;> omega) | fail) only [pn, pq] at hr3_0
  exact ⟨by first | rfl | assumption, hq _ _ hJu2 hFu2 (by first | rfl | assumption) (by (try simp (disch := first | ((try simp (disch := first | ((try simp only [pn]) <;> omega) | fail) only [pn, pq]) <;> omega) | fail) only [pn, pq]) <;> (intros; (try simp (disch := first | ((try simp (disch := first | ((try simp only [pn]) <;> omega) | fail) only [pn, pq]) <;> omega) | fail) only [pn, pq]) <;> omega)) (by (assumption)) (by (try simp (disch := first | ((try simp (disch := first | ((try simp only [pn]) <;> omega) | fail) only [pn, pq]) <;> omega) | fail) only [pn, pq]) <;> (intros; (try simp (disch := first | ((try simp (disch := first | ((try simp only [pn]) <;> omega) | fail) only [pn, pq]) <;> omega) | fail) only [pn, pq]) <;> omega))⟩
def F_X9_isLeaf (S u : bT9) : Prop := (b9g_told u) = (b9g_told S) ∧ (b9g_now u) = (b9g_now S) ∧ (b9g_keys u) = (b9g_keys S) ∧ (b9g_lengths u) = (b9g_lengths S) ∧ (b9g_drawn u) = (b9g_drawn S) ∧ (b9g_drawnLength u) = (b9g_drawnLength S) ∧ (b9g_tape u) = (b9g_tape S) ∧ (b9g_taped u) = (b9g_taped S) ∧ (b9g_names u) = (b9g_names S) ∧ (b9g_chosen u) = (b9g_chosen S) ∧ (b9g_nodeLevel u) = (b9g_nodeLevel S) ∧ (b9g_nodeLeaf u) = (b9g_nodeLeaf S) ∧ (b9g_nodeLeaves u) = (b9g_nodeLeaves S) ∧ (b9g_nodeMany u) = (b9g_nodeMany S) ∧ (b9g_levelMany u) = (b9g_levelMany S) ∧ (b9g_upper u) = (b9g_upper S) ∧ (b9g_upperNodes u) = (b9g_upperNodes S) ∧ (b9g_areNodesLaid u) = (b9g_areNodesLaid S) ∧ (b9g_itemNode u) = (b9g_itemNode S) ∧ (b9g_itemByte u) = (b9g_itemByte S) ∧ (b9g_itemChild u) = (b9g_itemChild S) ∧ (b9g_itemMany u) = (b9g_itemMany S) ∧ (b9g_placeOf u) = (b9g_placeOf S) ∧ (b9g_leafOfPlace u) = (b9g_leafOfPlace S) ∧ (b9g_places u) = (b9g_places S) ∧ (b9g_lowKey u) = (b9g_lowKey S) ∧ (b9g_highKey u) = (b9g_highKey S) ∧ (b9g_lowLength u) = (b9g_lowLength S) ∧ (b9g_highLength u) = (b9g_highLength S) ∧ (b9g_fromKey u) = (b9g_fromKey S) ∧ (b9g_toKey u) = (b9g_toKey S) ∧ (b9g_fromLength u) = (b9g_fromLength S) ∧ (b9g_toLength u) = (b9g_toLength S) ∧ (b9g_ones u) = (b9g_ones S) ∧ (b9g_oneMany u) = (b9g_oneMany S) ∧ (b9g_rowLong u) = (b9g_rowLong S) ∧ (b9g_laidFor u) = (b9g_laidFor S) ∧ (b9g_signs u) = (b9g_signs S) ∧ (b9g_signMany u) = (b9g_signMany S) ∧ (b9g_hasImage u) = (b9g_hasImage S) ∧ (b9g_images u) = (b9g_images S) ∧ (b9g_keyImages u) = (b9g_keyImages S) ∧ (b9g_lengthImages u) = (b9g_lengthImages S)
set_option maxRecDepth 20000 in
set_option maxHeartbeats 8000000 in
theorem sf_X9_isLeaf {S : bT9} (hJ : J9 S) {a1 : Int32} {Q : Int32 → (bT9) → Prop} (hq : ∀ (r : Int32) (u : bT9), (J9 u) → F_X9_isLeaf S u → bf_bool r → (r.toInt = 0 ∨ (0 ≤ a1.toInt ∧ a1.toInt < (b9g_now u 9).toInt)) → (r.toInt = 0 → a1.toInt < 0 ∨ (b9g_now u 9).toInt ≤ a1.toInt) → Q r u) : wp_X9_isLeaf S a1 Q := by
  unfold wp_X9_isLeaf
  have hFS : F_X9_isLeaf S S := ⟨rfl, rfl, rfl, rfl, rfl, rfl, rfl, rfl, rfl, rfl, rfl, rfl, rfl, rfl, rfl, rfl, rfl, rfl, rfl, rfl, rfl, rfl, rfl, rfl, rfl, rfl, rfl, rfl, rfl, rfl, rfl, rfl, rfl, rfl, rfl, rfl, rfl, rfl, rfl, rfl, rfl, rfl, rfl⟩
  have jf1 : (-4 ≤ ((b9g_now S) 1).toInt ∧ ((b9g_now S) 1).toInt ≤ 4) ∧ (-3 ≤ ((b9g_now S) 4).toInt ∧ ((b9g_now S) 4).toInt ≤ 252) ∧ (0 ≤ ((b9g_now S) 8).toInt ∧ ((b9g_now S) 8).toInt ≤ 64) ∧ (0 ≤ ((b9g_now S) 9).toInt ∧ ((b9g_now S) 9).toInt ≤ 64) ∧ (0 ≤ ((b9g_now S) 10).toInt ∧ ((b9g_now S) 10).toInt ≤ 16) ∧ (0 ≤ ((b9g_now S) 12).toInt ∧ ((b9g_now S) 12).toInt ≤ 8) := J9g_now hJ
  have ju1_S := hJ.2.1
  have rga1 := pt_rg a1
  refine sf_X9_leaves hJ (fun r1 u2 hJu2 hfu2 hr1_0 hr1_1 => ?_)
  have hFu2 : F_X9_isLeaf S u2 := ⟨(congrArg (fun z => z) hfu2.1).trans hFS.1, (congrArg (fun z => z) hfu2.2.1).trans hFS.2.1, (congrArg (fun z => z) hfu2.2.2.1).trans hFS.2.2.1, (congrArg (fun z => z) hfu2.2.2.2.1).trans hFS.2.2.2.1, (congrArg (fun z => z) hfu2.2.2.2.2.1).trans hFS.2.2.2.2.1, (congrArg (fun z => z) hfu2.2.2.2.2.2.1).trans hFS.2.2.2.2.2.1, (congrArg (fun z => z) hfu2.2.2.2.2.2.2.1).trans hFS.2.2.2.2.2.2.1, (congrArg (fun z => z) hfu2.2.2.2.2.2.2.2.1).trans hFS.2.2.2.2.2.2.2.1, (congrArg (fun z => z) hfu2.2.2.2.2.2.2.2.2.1).trans hFS.2.2.2.2.2.2.2.2.1, (congrArg (fun z => z) hfu2.2.2.2.2.2.2.2.2.2.1).trans hFS.2.2.2.2.2.2.2.2.2.1, (congrArg (fun z => z) hfu2.2.2.2.2.2.2.2.2.2.2.1).trans hFS.2.2.2.2.2.2.2.2.2.2.1, (congrArg (fun z => z) hfu2.2.2.2.2.2.2.2.2.2.2.2.1).trans hFS.2.2.2.2.2.2.2.2.2.2.2.1, (congrArg (fun z => z) hfu2.2.2.2.2.2.2.2.2.2.2.2.2.1).trans hFS.2.2.2.2.2.2.2.2.2.2.2.2.1, (congrArg (fun z => z) hfu2.2.2.2.2.2.2.2.2.2.2.2.2.2.1).trans hFS.2.2.2.2.2.2.2.2.2.2.2.2.2.1, (congrArg (fun z => z) hfu2.2.2.2.2.2.2.2.2.2.2.2.2.2.2.1).trans hFS.2.2.2.2.2.2.2.2.2.2.2.2.2.2.1, (congrArg (fun z => z) hfu2.2.2.2.2.2.2.2.2.2.2.2.2.2.2.2.1).trans hFS.2.2.2.2.2.2.2.2.2.2.2.2.2.2.2.1, (congrArg (fun z => z) hfu2.2.2.2.2.2.2.2.2.2.2.2.2.2.2.2.2.1).trans hFS.2.2.2.2.2.2.2.2.2.2.2.2.2.2.2.2.1, (congrArg (fun z => z) hfu2.2.2.2.2.2.2.2.2.2.2.2.2.2.2.2.2.2.1).trans hFS.2.2.2.2.2.2.2.2.2.2.2.2.2.2.2.2.2.1, (congrArg (fun z => z) hfu2.2.2.2.2.2.2.2.2.2.2.2.2.2.2.2.2.2.2.1).trans hFS.2.2.2.2.2.2.2.2.2.2.2.2.2.2.2.2.2.2.1, (congrArg (fun z => z) hfu2.2.2.2.2.2.2.2.2.2.2.2.2.2.2.2.2.2.2.2.1).trans hFS.2.2.2.2.2.2.2.2.2.2.2.2.2.2.2.2.2.2.2.1, (congrArg (fun z => z) hfu2.2.2.2.2.2.2.2.2.2.2.2.2.2.2.2.2.2.2.2.2.1).trans hFS.2.2.2.2.2.2.2.2.2.2.2.2.2.2.2.2.2.2.2.2.1, (congrArg (fun z => z) hfu2.2.2.2.2.2.2.2.2.2.2.2.2.2.2.2.2.2.2.2.2.2.1).trans hFS.2.2.2.2.2.2.2.2.2.2.2.2.2.2.2.2.2.2.2.2.2.1, (congrArg (fun z => z) hfu2.2.2.2.2.2.2.2.2.2.2.2.2.2.2.2.2.2.2.2.2.2.2.1).trans hFS.2.2.2.2.2.2.2.2.2.2.2.2.2.2.2.2.2.2.2.2.2.2.1, (congrArg (fun z => z) hfu2.2.2.2.2.2.2.2.2.2.2.2.2.2.2.2.2.2.2.2.2.2.2.2.1).trans hFS.2.2.2.2.2.2.2.2.2.2.2.2.2.2.2.2.2.2.2.2.2.2.2.1, (congrArg (fun z => z) hfu2.2.2.2.2.2.2.2.2.2.2.2.2.2.2.2.2.2.2.2.2.2.2.2.2.1).trans hFS.2.2.2.2.2.2.2.2.2.2.2.2.2.2.2.2.2.2.2.2.2.2.2.2.1, (congrArg (fun z => z) hfu2.2.2.2.2.2.2.2.2.2.2.2.2.2.2.2.2.2.2.2.2.2.2.2.2.2.1).trans hFS.2.2.2.2.2.2.2.2.2.2.2.2.2.2.2.2.2.2.2.2.2.2.2.2.2.1, (congrArg (fun z => z) hfu2.2.2.2.2.2.2.2.2.2.2.2.2.2.2.2.2.2.2.2.2.2.2.2.2.2.2.1).trans hFS.2.2.2.2.2.2.2.2.2.2.2.2.2.2.2.2.2.2.2.2.2.2.2.2.2.2.1, (congrArg (fun z => z) hfu2.2.2.2.2.2.2.2.2.2.2.2.2.2.2.2.2.2.2.2.2.2.2.2.2.2.2.2.1).trans hFS.2.2.2.2.2.2.2.2.2.2.2.2.2.2.2.2.2.2.2.2.2.2.2.2.2.2.2.1, (congrArg (fun z => z) hfu2.2.2.2.2.2.2.2.2.2.2.2.2.2.2.2.2.2.2.2.2.2.2.2.2.2.2.2.2.1).trans hFS.2.2.2.2.2.2.2.2.2.2.2.2.2.2.2.2.2.2.2.2.2.2.2.2.2.2.2.2.1, (congrArg (fun z => z) hfu2.2.2.2.2.2.2.2.2.2.2.2.2.2.2.2.2.2.2.2.2.2.2.2.2.2.2.2.2.2.1).trans hFS.2.2.2.2.2.2.2.2.2.2.2.2.2.2.2.2.2.2.2.2.2.2.2.2.2.2.2.2.2.1, (congrArg (fun z => z) hfu2.2.2.2.2.2.2.2.2.2.2.2.2.2.2.2.2.2.2.2.2.2.2.2.2.2.2.2.2.2.2.1).trans hFS.2.2.2.2.2.2.2.2.2.2.2.2.2.2.2.2.2.2.2.2.2.2.2.2.2.2.2.2.2.2.1, (congrArg (fun z => z) hfu2.2.2.2.2.2.2.2.2.2.2.2.2.2.2.2.2.2.2.2.2.2.2.2.2.2.2.2.2.2.2.2.1).trans hFS.2.2.2.2.2.2.2.2.2.2.2.2.2.2.2.2.2.2.2.2.2.2.2.2.2.2.2.2.2.2.2.1, (congrArg (fun z => z) hfu2.2.2.2.2.2.2.2.2.2.2.2.2.2.2.2.2.2.2.2.2.2.2.2.2.2.2.2.2.2.2.2.2.1).trans hFS.2.2.2.2.2.2.2.2.2.2.2.2.2.2.2.2.2.2.2.2.2.2.2.2.2.2.2.2.2.2.2.2.1, (congrArg (fun z => z) hfu2.2.2.2.2.2.2.2.2.2.2.2.2.2.2.2.2.2.2.2.2.2.2.2.2.2.2.2.2.2.2.2.2.2.1).trans hFS.2.2.2.2.2.2.2.2.2.2.2.2.2.2.2.2.2.2.2.2.2.2.2.2.2.2.2.2.2.2.2.2.2.1, (congrArg (fun z => z) hfu2.2.2.2.2.2.2.2.2.2.2.2.2.2.2.2.2.2.2.2.2.2.2.2.2.2.2.2.2.2.2.2.2.2.2.1).trans hFS.2.2.2.2.2.2.2.2.2.2.2.2.2.2.2.2.2.2.2.2.2.2.2.2.2.2.2.2.2.2.2.2.2.2.1, (congrArg (fun z => z) hfu2.2.2.2.2.2.2.2.2.2.2.2.2.2.2.2.2.2.2.2.2.2.2.2.2.2.2.2.2.2.2.2.2.2.2.2.1).trans hFS.2.2.2.2.2.2.2.2.2.2.2.2.2.2.2.2.2.2.2.2.2.2.2.2.2.2.2.2.2.2.2.2.2.2.2.1, (congrArg (fun z => z) hfu2.2.2.2.2.2.2.2.2.2.2.2.2.2.2.2.2.2.2.2.2.2.2.2.2.2.2.2.2.2.2.2.2.2.2.2.2.1).trans hFS.2.2.2.2.2.2.2.2.2.2.2.2.2.2.2.2.2.2.2.2.2.2.2.2.2.2.2.2.2.2.2.2.2.2.2.2.1, (congrArg (fun z => z) hfu2.2.2.2.2.2.2.2.2.2.2.2.2.2.2.2.2.2.2.2.2.2.2.2.2.2.2.2.2.2.2.2.2.2.2.2.2.2.1).trans hFS.2.2.2.2.2.2.2.2.2.2.2.2.2.2.2.2.2.2.2.2.2.2.2.2.2.2.2.2.2.2.2.2.2.2.2.2.2.1, (congrArg (fun z => z) hfu2.2.2.2.2.2.2.2.2.2.2.2.2.2.2.2.2.2.2.2.2.2.2.2.2.2.2.2.2.2.2.2.2.2.2.2.2.2.2.1).trans hFS.2.2.2.2.2.2.2.2.2.2.2.2.2.2.2.2.2.2.2.2.2.2.2.2.2.2.2.2.2.2.2.2.2.2.2.2.2.2.1, (congrArg (fun z => z) hfu2.2.2.2.2.2.2.2.2.2.2.2.2.2.2.2.2.2.2.2.2.2.2.2.2.2.2.2.2.2.2.2.2.2.2.2.2.2.2.2.1).trans hFS.2.2.2.2.2.2.2.2.2.2.2.2.2.2.2.2.2.2.2.2.2.2.2.2.2.2.2.2.2.2.2.2.2.2.2.2.2.2.2.1, (congrArg (fun z => z) hfu2.2.2.2.2.2.2.2.2.2.2.2.2.2.2.2.2.2.2.2.2.2.2.2.2.2.2.2.2.2.2.2.2.2.2.2.2.2.2.2.2.1).trans hFS.2.2.2.2.2.2.2.2.2.2.2.2.2.2.2.2.2.2.2.2.2.2.2.2.2.2.2.2.2.2.2.2.2.2.2.2.2.2.2.2.1, (congrArg (fun z => z) hfu2.2.2.2.2.2.2.2.2.2.2.2.2.2.2.2.2.2.2.2.2.2.2.2.2.2.2.2.2.2.2.2.2.2.2.2.2.2.2.2.2.2.1).trans hFS.2.2.2.2.2.2.2.2.2.2.2.2.2.2.2.2.2.2.2.2.2.2.2.2.2.2.2.2.2.2.2.2.2.2.2.2.2.2.2.2.2.1, (congrArg (fun z => z) hfu2.2.2.2.2.2.2.2.2.2.2.2.2.2.2.2.2.2.2.2.2.2.2.2.2.2.2.2.2.2.2.2.2.2.2.2.2.2.2.2.2.2.2).trans hFS.2.2.2.2.2.2.2.2.2.2.2.2.2.2.2.2.2.2.2.2.2.2.2.2.2.2.2.2.2.2.2.2.2.2.2.2.2.2.2.2.2.2⟩
  have je3 : ((b9g_now u2) 1).toInt = ((b9g_now S) 1).toInt := congrArg (fun z => (z 1).toInt) hFu2.2.1
  have je5 : ((b9g_now u2) 4).toInt = ((b9g_now S) 4).toInt := congrArg (fun z => (z 4).toInt) hFu2.2.1
  have je7 : ((b9g_now u2) 7).toInt = ((b9g_now S) 7).toInt := congrArg (fun z => (z 7).toInt) hFu2.2.1
  have je9 : ((b9g_now u2) 8).toInt = ((b9g_now S) 8).toInt := congrArg (fun z => (z 8).toInt) hFu2.2.1
  have je11 : ((b9g_now u2) 9).toInt = ((b9g_now S) 9).toInt := congrArg (fun z => (z 9).toInt) hFu2.2.1
  have je13 : ((b9g_now u2) 10).toInt = ((b9g_now S) 10).toInt := congrArg (fun z => (z 10).toInt) hFu2.2.1
  have je15 : ((b9g_now u2) 12).toInt = ((b9g_now S) 12).toInt := congrArg (fun z => (z 12).toInt) hFu2.2.1
  have ju15_u2 := hJu2.2.1
  have rgr1 := pt_rg r1
  try simp (disch := first | ((try simp (disch := first | ((try simp only [pn]) <;> omega) | fail) only [pn, pq]) <;> omega) | fail) only [pn, pq] at hr1_0
  refine sf_X9_isIn hJu2.1 (fun r3 hzr3 hr3_0 => ?_)
  try simp (disch := first | ((try simp (disch := first | ((try simp only [pn]) <;> omega) | fail) only [pn, pq]) <;> omega) | fail) only [pn, pq] at hr3_0
  exact ⟨by first | rfl | assumption, hq _ _ hJu2 hFu2 (by first | rfl | assumption) (by (try simp (disch := first | ((try simp (disch := first | ((try simp only [pn]) <;> omega) | fail) only [pn, pq]) <;> omega) | fail) only [pn, pq]) <;> (intros; (try simp (disch := first | ((try simp (disch := first | ((try simp only [pn]) <;> omega) | fail) only [pn, pq]) <;> omega) | fail) only [pn, pq]) <;> omega)) (by (try simp (disch := first | ((try simp (disch := first | ((try simp only [pn]) <;> omega) | fail) only [pn, pq]) <;> omega) | fail) only [pn, pq]) <;> (intros; (try simp (disch := first | ((try simp (disch := first | ((try simp only [pn]) <;> omega) | fail) only [pn, pq]) <;> omega) | fail) only [pn, pq]) <;> omega))⟩
theorem TF_isLeaf {S u : bT9} (h : F_X9_isLeaf S u) : TF9 u S := ⟨⟨h.2.2.1, h.2.2.2.1, h.2.1⟩, h.2.2.2.2.2.2.2.2.2.2.2.2.2.2.2.2.2.1, h.2.2.2.2.2.2.2.2.2.2.1, h.2.2.2.2.2.2.2.2.2.2.2.1, h.2.2.2.2.2.2.2.2.2.2.2.2.1, h.2.2.2.2.2.2.2.2.2.2.2.2.2.1, h.2.2.2.2.2.2.2.2.2.2.2.2.2.2.1, h.2.2.2.2.2.2.2.2.2.2.2.2.2.2.2.1, h.2.2.2.2.2.2.2.2.2.2.2.2.2.2.2.2.1, h.2.2.2.2.2.2.2.2.2.2.2.2.2.2.2.2.2.2.1, h.2.2.2.2.2.2.2.2.2.2.2.2.2.2.2.2.2.2.2.1, h.2.2.2.2.2.2.2.2.2.2.2.2.2.2.2.2.2.2.2.2.1, h.2.2.2.2.2.2.2.2.2.2.2.2.2.2.2.2.2.2.2.2.2.1, h.2.2.2.2.2.2.2.2.2.2.2.2.2.2.2.2.2.2.2.2.2.2.1, h.2.2.2.2.2.2.2.2.2.2.2.2.2.2.2.2.2.2.2.2.2.2.2.1, h.2.2.2.2.2.2.2.2.2.2.2.2.2.2.2.2.2.2.2.2.2.2.2.2.2.2.2.2.2.2.2.2.2.2.2.2.1, h.2.2.2.2.2.2.2.2.2.2.2.2.2.2.2.2.2.2.2.2.2.2.2.2.2.2.2.2.2.2.2.2.2.2.1, h.2.2.2.2.2.2.2.2.2.2.2.2.2.2.2.2.2.2.2.2.2.2.2.2.2.2.2.2.2.2.2.2.2.2.2.1, h.2.2.2.2.2.2.2.2.2.2.2.2.2.2.2.2.2.2.2.2.2.2.2.2.2.2.2.2.2.2.2.2.2.1⟩
set_option maxRecDepth 20000 in
set_option maxHeartbeats 8000000 in
theorem sf_X9_nextOf {S : bT9} (hJ : K9 S) {a1 : Int64} {a3 : Int32} {a4 : Int32} {Q : Int32 → Prop} (hq : ∀ r : Int32, Q r) : wp_X9_nextOf S a1 a3 a4 Q := by
  unfold wp_X9_nextOf
  have jf1 : (-4 ≤ ((b9g_now S) 1).toInt ∧ ((b9g_now S) 1).toInt ≤ 4) ∧ (-3 ≤ ((b9g_now S) 4).toInt ∧ ((b9g_now S) 4).toInt ≤ 252) ∧ (0 ≤ ((b9g_now S) 8).toInt ∧ ((b9g_now S) 8).toInt ≤ 64) ∧ (0 ≤ ((b9g_now S) 9).toInt ∧ ((b9g_now S) 9).toInt ≤ 64) ∧ (0 ≤ ((b9g_now S) 10).toInt ∧ ((b9g_now S) 10).toInt ≤ 16) ∧ (0 ≤ ((b9g_now S) 12).toInt ∧ ((b9g_now S) 12).toInt ≤ 8) := K9g_now hJ
  have rga3 := pt_rg a3
  have rga4 := pt_rg a4
  refine ⟨fun c1 => ?_, fun c1 => ?_⟩
  · try simp (disch := first | ((try simp (disch := first | ((try simp only [pn]) <;> omega) | fail) only [pn, pq]) <;> omega) | fail) only [pn, pq] at c1
    refine sf_X9_byteOf hJ (fun r2  => ?_)
    have rgr2 := pt_rg r2
    exact hq _ 
  · try simp (disch := first | ((try simp (disch := first | ((try simp only [pn]) <;> omega) | fail) only [pn, pq]) <;> omega) | fail) only [pn, pq] at c1
    exact hq _ 
def F_X9_bounds (S u : bT9) : Prop := (b9g_told u) = (b9g_told S) ∧ (b9g_now u) = (b9g_now S) ∧ (b9g_keys u) = (b9g_keys S) ∧ (b9g_lengths u) = (b9g_lengths S) ∧ (b9g_drawn u) = (b9g_drawn S) ∧ (b9g_drawnLength u) = (b9g_drawnLength S) ∧ (b9g_tape u) = (b9g_tape S) ∧ (b9g_taped u) = (b9g_taped S) ∧ (b9g_names u) = (b9g_names S) ∧ (b9g_chosen u) = (b9g_chosen S) ∧ (b9g_common u) = (b9g_common S) ∧ (b9g_beginning u) = (b9g_beginning S) ∧ (b9g_isLaid u) = (b9g_isLaid S) ∧ (b9g_nodeLevel u) = (b9g_nodeLevel S) ∧ (b9g_nodeLeaf u) = (b9g_nodeLeaf S) ∧ (b9g_nodeLeaves u) = (b9g_nodeLeaves S) ∧ (b9g_nodeMany u) = (b9g_nodeMany S) ∧ (b9g_levelMany u) = (b9g_levelMany S) ∧ (b9g_upper u) = (b9g_upper S) ∧ (b9g_upperNodes u) = (b9g_upperNodes S) ∧ (b9g_areNodesLaid u) = (b9g_areNodesLaid S) ∧ (b9g_itemNode u) = (b9g_itemNode S) ∧ (b9g_itemByte u) = (b9g_itemByte S) ∧ (b9g_itemChild u) = (b9g_itemChild S) ∧ (b9g_itemMany u) = (b9g_itemMany S) ∧ (b9g_placeOf u) = (b9g_placeOf S) ∧ (b9g_leafOfPlace u) = (b9g_leafOfPlace S) ∧ (b9g_places u) = (b9g_places S) ∧ (b9g_fromKey u) = (b9g_fromKey S) ∧ (b9g_toKey u) = (b9g_toKey S) ∧ (b9g_fromLength u) = (b9g_fromLength S) ∧ (b9g_toLength u) = (b9g_toLength S) ∧ (b9g_ones u) = (b9g_ones S) ∧ (b9g_oneMany u) = (b9g_oneMany S) ∧ (b9g_rowLong u) = (b9g_rowLong S) ∧ (b9g_laidFor u) = (b9g_laidFor S) ∧ (b9g_signs u) = (b9g_signs S) ∧ (b9g_signMany u) = (b9g_signMany S) ∧ (b9g_hasImage u) = (b9g_hasImage S) ∧ (b9g_images u) = (b9g_images S) ∧ (b9g_keyImages u) = (b9g_keyImages S) ∧ (b9g_lengthImages u) = (b9g_lengthImages S)
theorem sf_X9_bounds {S : bT9} (hJ : J9 S) {a1 : Int32} {a2 : Int32} {Q : (bT9) → Prop} (hp0 : 0 ≤ a1.toInt) (hp1 : a1.toInt ≤ 63) (hq : ∀ u : bT9, (J9 u) → F_X9_bounds S u → (SR9 S → (b9g_isLaid S).toInt ≠ 0 → 0 ≤ a2.toInt → a2.toInt ≤ 8 → a1.toInt < (b9g_now S 9).toInt → BDS S a2 a1.toNatClampNeg u) → Q u) : wp_X9_bounds S a1 a2 Q := by
  have cx := pt_clamp hp0
  obtain ⟨i, hi⟩ : ∃ i : Nat, a1.toNatClampNeg = i := ⟨_, rfl⟩
  obtain ⟨l, hl⟩ : ∃ l : Int32, b9g_beginning S i = l := ⟨_, rfl⟩
  rw [hi] at cx hq
  unfold wp_X9_bounds
  refine ⟨pt_in hp0 (by omega), fx9_key hp0 hp1 ?_⟩
  rw [hi, hl]
  refine fx9_cut ?_
  obtain ⟨k, hk⟩ : ∃ k : Int64, b9g_keys S (64 + i) = k := ⟨_, rfl⟩
  rw [hk]
  intro S10 e10 S11 e11 S12 e12 S13 e13
  have hJ13 : J9 S13 := by rw [e13, e12, e11, e10]; exact J9s_highLength (J9s_highKey (J9s_lowLength (J9s_lowKey hJ)))
  have hF13 : F_X9_bounds S S13 := by rw [e13, e12, e11, e10]; exact ⟨rfl, rfl, rfl, rfl, rfl, rfl, rfl, rfl, rfl, rfl, rfl, rfl, rfl, rfl, rfl, rfl, rfl, rfl, rfl, rfl, rfl, rfl, rfl, rfl, rfl, rfl, rfl, rfl, rfl, rfl, rfl, rfl, rfl, rfl, rfl, rfl, rfl, rfl, rfl, rfl, rfl, rfl⟩
  have f1 : b9g_lowKey S13 = cutf k l := by rw [e13, e12, e11, e10]
  have f2 : b9g_lowLength S13 = l := by rw [e13, e12, e11]
  have f3 : b9g_highKey S13 = cutf k l := by rw [e13, e12, e11, e10]
  have f4 : b9g_highLength S13 = l := by rw [e13]
  have kk : b9g_keys S13 (64 + i) = k := by rw [e13, e12, e11, e10]; exact hk
  have ll : b9g_lengths S13 = b9g_lengths S := by rw [e13, e12, e11, e10]
  have cc : b9g_common S13 = b9g_common S := by rw [e13, e12, e11, e10]
  obtain ⟨F, hF⟩ : ∃ F : Nat → Int64, (fun j => b9g_keys S (64 + j)) = F := ⟨_, rfl⟩
  obtain ⟨G, hG⟩ : ∃ G : Nat → Int32, (fun j => b9g_lengths S (64 + j)) = G := ⟨_, rfl⟩
  have fk : F i = k := by rw [← hF]; exact hk
  have fl : b9g_lengths S (64 + i) = G i := by rw [← hG]
  have known : (b9g_isLaid S).toInt ≠ 0 → a1.toInt < (b9g_now S 9).toInt → (b9g_common S i).toInt = (COM F G (b9g_now S 9).toInt i : Nat) ∧ l.toInt = (BEG F G (b9g_now S 9).toInt i : Nat) := by
    intro h1 h2
    have h := hJ.2.2 h1 i (by omega)
    rw [hF, hG, hl] at h
    exact h
  unfold SR9 BDS at hq
  rw [hF, hG] at hq
  have flat : (SRT F G (b9g_now S 9).toInt → (b9g_isLaid S).toInt ≠ 0 → a1.toInt < (b9g_now S 9).toInt → COM F G (b9g_now S 9).toInt i = (G i).toInt.toNat ∨ BEG F G (b9g_now S 9).toInt i = 8) → Q S13 := by
    intro o
    refine hq _ hJ13 hF13 (fun hs h1 r0 r8 h2 => ?_)
    obtain ⟨k1, k2⟩ := known h1 h2
    have o' := o hs h1 h2
    have bf := BEG_f hs (i := i) (by omega)
    unfold LOV LOL HIV HIL
    rw [if_pos o', if_pos o', if_pos o', if_pos o', f1, f2, f3, f4, fk]
    have e : ub (cutf k l) = PX (ub k) (BEG F G (b9g_now S 9).toInt i) * 2 ^ (64 - 8 * BEG F G (b9g_now S 9).toInt i) := by rw [ub_cut _ (by omega) (by omega), show l.toInt.toNat = BEG F G (b9g_now S 9).toInt i by omega]
    exact ⟨e, k2, e, k2⟩
  unfold wp_X9_isEnded
  rw [cc, hi]
  refine ⟨pt_in hp0 (by omega), fx9_lengthOf hp0 hp1 ?_⟩
  rw [ll, hi, fl]
  refine ⟨fun d => ⟨rfl, fun h => absurd rfl h, fun _ => ⟨fun n8 => ?_, fun e8 => flat (fun hs h1 h2 => ?_)⟩⟩, fun d => ⟨rfl, fun _ => flat (fun hs h1 h2 => ?_), fun h => absurd h (by decide)⟩⟩
  rotate_left
  · have := (known h1 h2).2
    rw [e8, pl_8] at this
    exact Or.inr (by omega)
  · have := (known h1 h2).1
    rw [d] at this
    exact Or.inl (by omega)
  refine fx9_key hp0 hp1 ?_
  rw [hi, kk]
  unfold wp_X9_nextOf
  refine ⟨fun _ => fx9_byteOf ?_, fun h => absurd h n8⟩
  intro v20 e20
  have e20' : v20 = thr (OCT k l) a2 := e20
  rw [f1]
  have facts : SRT F G (b9g_now S 9).toInt → (b9g_isLaid S).toInt ≠ 0 → a1.toInt < (b9g_now S 9).toInt → 1 ≤ l.toInt ∧ l.toInt ≤ 7 ∧ l.toInt = (BEG F G (b9g_now S 9).toInt i : Nat) ∧ ¬ (COM F G (b9g_now S 9).toInt i = (G i).toInt.toNat ∨ BEG F G (b9g_now S 9).toInt i = 8) := by
    intro hs h1 h2
    obtain ⟨k1, k2⟩ := known h1 h2
    have bf := BEG_f hs (i := i) (by omega)
    have l8 : l.toInt ≠ 8 := fun h => n8 (Int32.toInt_inj.mp (by rw [pl_8]; exact h))
    have d' : (b9g_common S i).toInt ≠ (G i).toInt := fun h => d (Int32.toInt_inj.mp h)
    refine ⟨by omega, by omega, k2, fun o => ?_⟩
    rcases o with o | o
    · omega
    · omega
  have tail : ∀ t2 : Int64, (1 ≤ l.toInt → l.toInt ≤ 7 → ub t2 = 2 ^ (56 - 8 * l.toInt.toNat) - 1) → wp_X9_bounds_117 S13 a2 l ((OCT k l) >>> (((8 : Int32) - a2) &&& 31)) (cutf k l ||| (v20.toInt64 <<< ((((56 : Int32) - ((8 : Int32) * l))).toInt64 &&& 63))) t2 Q := by
    intro t2 ht2
    unfold wp_X9_bounds_117
    intro S1 e1 S2 e2
    have hJ2 : J9 S2 := by rw [e2, e1]; exact J9s_highLength (J9s_highKey hJ13)
    have hF2 : F_X9_bounds S S2 := by rw [e2, e1]; exact hF13
    have h1k : b9g_highKey S2 = (cutf k l ||| (v20.toInt64 <<< ((((56 : Int32) - ((8 : Int32) * l))).toInt64 &&& 63))) ||| t2 := by rw [e2, e1]
    have h1l : b9g_highLength S2 = 8 := by rw [e2]
    have h1m : b9g_lowKey S2 = cutf k l := by rw [e2, e1]; exact f1
    have h1n : b9g_lowLength S2 = l := by rw [e2, e1]; exact f2
    have vals : SRT F G (b9g_now S 9).toInt → (b9g_isLaid S).toInt ≠ 0 → 0 ≤ a2.toInt → a2.toInt ≤ 8 → a1.toInt < (b9g_now S 9).toInt → ((OCT k l) >>> (((8 : Int32) - a2) &&& 31) = 0 ↔ NXB (ub k) (BEG F G (b9g_now S 9).toInt i) a2 = 0) ∧ ub (cutf k l ||| ((tlo (OCT k l) a2).toInt64 <<< ((((56 : Int32) - ((8 : Int32) * l))).toInt64 &&& 63))) = LOV F G (b9g_now S 9).toInt a2 i ∧ ub (b9g_highKey S2) = HIV F G (b9g_now S 9).toInt a2 i ∧ HIL F G (b9g_now S 9).toInt i = 8 ∧ LOL F G (b9g_now S 9).toInt a2 i = (if NXB (ub k) (BEG F G (b9g_now S 9).toInt i) a2 = 0 then BEG F G (b9g_now S 9).toInt i else BEG F G (b9g_now S 9).toInt i + 1) ∧ LOV F G (b9g_now S 9).toInt a2 i = PX (ub k) (BEG F G (b9g_now S 9).toInt i) * 2 ^ (64 - 8 * BEG F G (b9g_now S 9).toInt i) + NXB (ub k) (BEG F G (b9g_now S 9).toInt i) a2 * 2 ^ (56 - 8 * BEG F G (b9g_now S 9).toInt i) := by
      intro hs h1 r0 r8 h2
      obtain ⟨q1, q2, q3, q4⟩ := facts hs h1 h2
      have bL : BEG F G (b9g_now S 9).toInt i = l.toInt.toNat := by omega
      have orr := OCT_rng k (i := l) (by omega) q2
      obtain ⟨_, _, n3, n4⟩ := nx_f orr.1 orr.2 r0 r8
      obtain ⟨w1, w2, w3⟩ := bd_val k (l := l) (rb := a2) q1 q2 r0 r8
      have w3' := w3 t2 (ht2 q1 q2)
      unfold LOV LOL HIV HIL
      rw [if_neg q4, if_neg q4, if_neg q4, if_neg q4, fk, bL]
      refine ⟨?_, w2, ?_, rfl, rfl, rfl⟩
      · rw [n4]
        constructor
        · intro h
          rw [h, pl_0] at w1
          omega
        · intro h
          rw [h] at w1
          exact Int32.toInt_inj.mp w1
      · rw [h1k, e20', n3]
        exact w3'
    refine ⟨fun z => ?_, fun z => ?_⟩
    · intro v3 e3 S4 e4 S5 e5
      have e3' : v3 = cutf k l ||| ((tlo (OCT k l) a2).toInt64 <<< ((((56 : Int32) - ((8 : Int32) * l))).toInt64 &&& 63)) := by rw [e3, h1m]; rfl
      have g1 : b9g_lowKey S5 = v3 := by rw [e5, e4]
      have g2 : b9g_lowLength S5 = l + 1 := by rw [e5]
      have g3 : b9g_highKey S5 = b9g_highKey S2 := by rw [e5, e4]
      have g4 : b9g_highLength S5 = 8 := by rw [e5, e4]; exact h1l
      refine hq _ (by rw [e5, e4]; exact J9s_lowLength (J9s_lowKey hJ2)) (by rw [e5, e4]; exact hF2) (fun hs h1 r0 r8 h2 => ?_)
      obtain ⟨m1, m2, m3, m4, m5, m6⟩ := vals hs h1 r0 r8 h2
      obtain ⟨q1, q2, q3, q4⟩ := facts hs h1 h2
      have l1 : (l + 1).toInt = l.toInt + 1 := by rw [pt_add (by rw [pl_1]; omega) (by rw [pl_1]; omega), pl_1]
      rw [g1, g2, g3, g4, m4, m5, e3', if_neg (fun h => z (m1.mpr h)), l1]
      exact ⟨m2, by omega, m3, rfl⟩
    · refine hq _ hJ2 hF2 (fun hs h1 r0 r8 h2 => ?_)
      obtain ⟨m1, m2, m3, m4, m5, m6⟩ := vals hs h1 r0 r8 h2
      obtain ⟨q1, q2, q3, q4⟩ := facts hs h1 h2
      have zz := m1.mp z
      rw [h1m, h1n, h1l, m4, m5, m6, if_pos zz, zz]
      refine ⟨?_, by omega, m3, rfl⟩
      rw [ub_cut _ (by omega) (by omega), show l.toInt.toNat = BEG F G (b9g_now S 9).toInt i by omega, Nat.zero_mul, Nat.add_zero]
  refine ⟨fun n7 => tail _ (fun a b => ?_), fun e7 => tail _ (fun a b => ?_)⟩
  · have l7 : l.toInt ≠ 7 := fun h => n7 (Int32.toInt_inj.mp (by rw [pl_7]; exact h))
    exact ub_rf a (by omega)
  · rw [e7, tn_7]
    rfl
set_option maxRecDepth 20000 in
set_option maxHeartbeats 8000000 in
theorem sf_X9_isAhead {S : bT9} (hJ : K9 S) {a1 : Int64} {a3 : Int32} {Q : Int32 → Prop} (hq : ∀ r : Int32, bf_bool r → Q r) : wp_X9_isAhead S a1 a3 Q := by
  unfold wp_X9_isAhead
  have jf1 : (-4 ≤ ((b9g_now S) 1).toInt ∧ ((b9g_now S) 1).toInt ≤ 4) ∧ (-3 ≤ ((b9g_now S) 4).toInt ∧ ((b9g_now S) 4).toInt ≤ 252) ∧ (0 ≤ ((b9g_now S) 8).toInt ∧ ((b9g_now S) 8).toInt ≤ 64) ∧ (0 ≤ ((b9g_now S) 9).toInt ∧ ((b9g_now S) 9).toInt ≤ 64) ∧ (0 ≤ ((b9g_now S) 10).toInt ∧ ((b9g_now S) 10).toInt ≤ 16) ∧ (0 ≤ ((b9g_now S) 12).toInt ∧ ((b9g_now S) 12).toInt ≤ 8) := K9g_now hJ
  have rga3 := pt_rg a3
  refine sf_X9_isLess hJ (fun r1 hzr1  => ?_)
  exact ⟨by first | rfl | assumption, hq _ (by first | rfl | assumption) ⟩
set_option maxRecDepth 20000 in
set_option maxHeartbeats 8000000 in
theorem sf_X9_isBehind {S : bT9} (hJ : K9 S) {a1 : Int64} {a3 : Int32} {Q : Int32 → Prop} (hq : ∀ r : Int32, bf_bool r → Q r) : wp_X9_isBehind S a1 a3 Q := by
  unfold wp_X9_isBehind
  have jf1 : (-4 ≤ ((b9g_now S) 1).toInt ∧ ((b9g_now S) 1).toInt ≤ 4) ∧ (-3 ≤ ((b9g_now S) 4).toInt ∧ ((b9g_now S) 4).toInt ≤ 252) ∧ (0 ≤ ((b9g_now S) 8).toInt ∧ ((b9g_now S) 8).toInt ≤ 64) ∧ (0 ≤ ((b9g_now S) 9).toInt ∧ ((b9g_now S) 9).toInt ≤ 64) ∧ (0 ≤ ((b9g_now S) 10).toInt ∧ ((b9g_now S) 10).toInt ≤ 16) ∧ (0 ≤ ((b9g_now S) 12).toInt ∧ ((b9g_now S) 12).toInt ≤ 8) := K9g_now hJ
  have rga3 := pt_rg a3
  refine sf_X9_isLess hJ (fun r1 hzr1  => ?_)
  exact ⟨by first | rfl | assumption, hq _ (by first | rfl | assumption) ⟩
def F_X9_leafFor (S u : bT9) : Prop := (b9g_told u) = (b9g_told S) ∧ (b9g_now u) = (b9g_now S) ∧ (b9g_keys u) = (b9g_keys S) ∧ (b9g_lengths u) = (b9g_lengths S) ∧ (b9g_drawn u) = (b9g_drawn S) ∧ (b9g_drawnLength u) = (b9g_drawnLength S) ∧ (b9g_tape u) = (b9g_tape S) ∧ (b9g_taped u) = (b9g_taped S) ∧ (b9g_names u) = (b9g_names S) ∧ (b9g_chosen u) = (b9g_chosen S) ∧ (b9g_nodeLevel u) = (b9g_nodeLevel S) ∧ (b9g_nodeLeaf u) = (b9g_nodeLeaf S) ∧ (b9g_nodeLeaves u) = (b9g_nodeLeaves S) ∧ (b9g_nodeMany u) = (b9g_nodeMany S) ∧ (b9g_levelMany u) = (b9g_levelMany S) ∧ (b9g_upper u) = (b9g_upper S) ∧ (b9g_upperNodes u) = (b9g_upperNodes S) ∧ (b9g_areNodesLaid u) = (b9g_areNodesLaid S) ∧ (b9g_itemNode u) = (b9g_itemNode S) ∧ (b9g_itemByte u) = (b9g_itemByte S) ∧ (b9g_itemChild u) = (b9g_itemChild S) ∧ (b9g_itemMany u) = (b9g_itemMany S) ∧ (b9g_placeOf u) = (b9g_placeOf S) ∧ (b9g_leafOfPlace u) = (b9g_leafOfPlace S) ∧ (b9g_places u) = (b9g_places S) ∧ (b9g_fromKey u) = (b9g_fromKey S) ∧ (b9g_toKey u) = (b9g_toKey S) ∧ (b9g_fromLength u) = (b9g_fromLength S) ∧ (b9g_toLength u) = (b9g_toLength S) ∧ (b9g_ones u) = (b9g_ones S) ∧ (b9g_oneMany u) = (b9g_oneMany S) ∧ (b9g_rowLong u) = (b9g_rowLong S) ∧ (b9g_laidFor u) = (b9g_laidFor S) ∧ (b9g_signs u) = (b9g_signs S) ∧ (b9g_signMany u) = (b9g_signMany S) ∧ (b9g_hasImage u) = (b9g_hasImage S) ∧ (b9g_images u) = (b9g_images S) ∧ (b9g_keyImages u) = (b9g_keyImages S) ∧ (b9g_lengthImages u) = (b9g_lengthImages S)
theorem sf_X9_leafFor {S : bT9} (hJ : J9 S) {a1 : Int64} {a3 : Int32} {a4 : Int32} {Q : Int32 → (bT9) → Prop} (hq : ∀ (r : Int32) (u : bT9), (J9 u) → F_X9_leafFor S u → (r.toInt = -1 ∨ (0 ≤ r.toInt ∧ r.toInt ≤ 63)) → (SR9 S → 1 ≤ a3.toInt → a3.toInt ≤ 8 → 0 ≤ a4.toInt → a4.toInt ≤ 8 → LFA (fun j => b9g_keys S (64 + j)) (fun j => b9g_lengths S (64 + j)) (b9g_now S 9).toInt a4 a1 a3 r.toInt) → Q r u) : wp_X9_leafFor S a1 a3 a4 Q := by
  unfold wp_X9_leafFor wp_X9_leafFor_3
  refine ⟨fun n x1 x3 x4 x5 V => x1 = a1 ∧ x3 = a3 ∧ x4 = a4 ∧ 0 ≤ x5.toInt ∧ x5.toInt ≤ 64 ∧ J9 V ∧ F_X9_leafFor S V ∧ (SR9 S → 1 ≤ a3.toInt → a3.toInt ≤ 8 → 0 ≤ a4.toInt → a4.toInt ≤ 8 → ∀ i : Nat, (i : Int) < (x5).toInt → (i : Int) < (b9g_now S 9).toInt → (NLT (ub a1) a3.toInt.toNat (LOV (fun j => b9g_keys S (64 + j)) (fun j => b9g_lengths S (64 + j)) (b9g_now S 9).toInt a4 i) (LOL (fun j => b9g_keys S (64 + j)) (fun j => b9g_lengths S (64 + j)) (b9g_now S 9).toInt a4 i) ∨ NLT (HIV (fun j => b9g_keys S (64 + j)) (fun j => b9g_lengths S (64 + j)) (b9g_now S 9).toInt a4 i) (HIL (fun j => b9g_keys S (64 + j)) (fun j => b9g_lengths S (64 + j)) (b9g_now S 9).toInt i) (ub a1) a3.toInt.toNat)) ∧ n = (64 - x5.toInt).toNat, ⟨_, rfl, rfl, rfl, by decide, by decide, hJ, ⟨rfl, rfl, rfl, rfl, rfl, rfl, rfl, rfl, rfl, rfl, rfl, rfl, rfl, rfl, rfl, rfl, rfl, rfl, rfl, rfl, rfl, rfl, rfl, rfl, rfl, rfl, rfl, rfl, rfl, rfl, rfl, rfl, rfl, rfl, rfl, rfl, rfl, rfl, rfl⟩, fun _ _ _ _ _ i hi => by rw [pl_0] at hi; omega, rfl⟩, ?_⟩
  rintro n x1 x3 x4 x5 V ⟨e1, e3, e4, h0, h64, hJV, hFV, hI, hn⟩
  unfold wp_X9_leafFor_3b
  rw [e1, e3, e4]
  refine sf_X9_leaves hJV (fun r1 u2 hJ2 hf2 h1 hil => ?_)
  have hF2 : F_X9_leafFor S u2 := ⟨(hf2.1).trans (hFV.1), (hf2.2.1).trans (hFV.2.1), (hf2.2.2.1).trans (hFV.2.2.1), (hf2.2.2.2.1).trans (hFV.2.2.2.1), (hf2.2.2.2.2.1).trans (hFV.2.2.2.2.1), (hf2.2.2.2.2.2.1).trans (hFV.2.2.2.2.2.1), (hf2.2.2.2.2.2.2.1).trans (hFV.2.2.2.2.2.2.1), (hf2.2.2.2.2.2.2.2.1).trans (hFV.2.2.2.2.2.2.2.1), (hf2.2.2.2.2.2.2.2.2.1).trans (hFV.2.2.2.2.2.2.2.2.1), (hf2.2.2.2.2.2.2.2.2.2.1).trans (hFV.2.2.2.2.2.2.2.2.2.1), (hf2.2.2.2.2.2.2.2.2.2.2.1).trans (hFV.2.2.2.2.2.2.2.2.2.2.1), (hf2.2.2.2.2.2.2.2.2.2.2.2.1).trans (hFV.2.2.2.2.2.2.2.2.2.2.2.1), (hf2.2.2.2.2.2.2.2.2.2.2.2.2.1).trans (hFV.2.2.2.2.2.2.2.2.2.2.2.2.1), (hf2.2.2.2.2.2.2.2.2.2.2.2.2.2.1).trans (hFV.2.2.2.2.2.2.2.2.2.2.2.2.2.1), (hf2.2.2.2.2.2.2.2.2.2.2.2.2.2.2.1).trans (hFV.2.2.2.2.2.2.2.2.2.2.2.2.2.2.1), (hf2.2.2.2.2.2.2.2.2.2.2.2.2.2.2.2.1).trans (hFV.2.2.2.2.2.2.2.2.2.2.2.2.2.2.2.1), (hf2.2.2.2.2.2.2.2.2.2.2.2.2.2.2.2.2.1).trans (hFV.2.2.2.2.2.2.2.2.2.2.2.2.2.2.2.2.1), (hf2.2.2.2.2.2.2.2.2.2.2.2.2.2.2.2.2.2.1).trans (hFV.2.2.2.2.2.2.2.2.2.2.2.2.2.2.2.2.2.1), (hf2.2.2.2.2.2.2.2.2.2.2.2.2.2.2.2.2.2.2.1).trans (hFV.2.2.2.2.2.2.2.2.2.2.2.2.2.2.2.2.2.2.1), (hf2.2.2.2.2.2.2.2.2.2.2.2.2.2.2.2.2.2.2.2.1).trans (hFV.2.2.2.2.2.2.2.2.2.2.2.2.2.2.2.2.2.2.2.1), (hf2.2.2.2.2.2.2.2.2.2.2.2.2.2.2.2.2.2.2.2.2.1).trans (hFV.2.2.2.2.2.2.2.2.2.2.2.2.2.2.2.2.2.2.2.2.1), (hf2.2.2.2.2.2.2.2.2.2.2.2.2.2.2.2.2.2.2.2.2.2.1).trans (hFV.2.2.2.2.2.2.2.2.2.2.2.2.2.2.2.2.2.2.2.2.2.1), (hf2.2.2.2.2.2.2.2.2.2.2.2.2.2.2.2.2.2.2.2.2.2.2.1).trans (hFV.2.2.2.2.2.2.2.2.2.2.2.2.2.2.2.2.2.2.2.2.2.2.1), (hf2.2.2.2.2.2.2.2.2.2.2.2.2.2.2.2.2.2.2.2.2.2.2.2.1).trans (hFV.2.2.2.2.2.2.2.2.2.2.2.2.2.2.2.2.2.2.2.2.2.2.2.1), (hf2.2.2.2.2.2.2.2.2.2.2.2.2.2.2.2.2.2.2.2.2.2.2.2.2.1).trans (hFV.2.2.2.2.2.2.2.2.2.2.2.2.2.2.2.2.2.2.2.2.2.2.2.2.1), (hf2.2.2.2.2.2.2.2.2.2.2.2.2.2.2.2.2.2.2.2.2.2.2.2.2.2.2.2.2.2.1).trans (hFV.2.2.2.2.2.2.2.2.2.2.2.2.2.2.2.2.2.2.2.2.2.2.2.2.2.1), (hf2.2.2.2.2.2.2.2.2.2.2.2.2.2.2.2.2.2.2.2.2.2.2.2.2.2.2.2.2.2.2.1).trans (hFV.2.2.2.2.2.2.2.2.2.2.2.2.2.2.2.2.2.2.2.2.2.2.2.2.2.2.1), (hf2.2.2.2.2.2.2.2.2.2.2.2.2.2.2.2.2.2.2.2.2.2.2.2.2.2.2.2.2.2.2.2.1).trans (hFV.2.2.2.2.2.2.2.2.2.2.2.2.2.2.2.2.2.2.2.2.2.2.2.2.2.2.2.1), (hf2.2.2.2.2.2.2.2.2.2.2.2.2.2.2.2.2.2.2.2.2.2.2.2.2.2.2.2.2.2.2.2.2.1).trans (hFV.2.2.2.2.2.2.2.2.2.2.2.2.2.2.2.2.2.2.2.2.2.2.2.2.2.2.2.2.1), (hf2.2.2.2.2.2.2.2.2.2.2.2.2.2.2.2.2.2.2.2.2.2.2.2.2.2.2.2.2.2.2.2.2.2.1).trans (hFV.2.2.2.2.2.2.2.2.2.2.2.2.2.2.2.2.2.2.2.2.2.2.2.2.2.2.2.2.2.1), (hf2.2.2.2.2.2.2.2.2.2.2.2.2.2.2.2.2.2.2.2.2.2.2.2.2.2.2.2.2.2.2.2.2.2.2.1).trans (hFV.2.2.2.2.2.2.2.2.2.2.2.2.2.2.2.2.2.2.2.2.2.2.2.2.2.2.2.2.2.2.1), (hf2.2.2.2.2.2.2.2.2.2.2.2.2.2.2.2.2.2.2.2.2.2.2.2.2.2.2.2.2.2.2.2.2.2.2.2.1).trans (hFV.2.2.2.2.2.2.2.2.2.2.2.2.2.2.2.2.2.2.2.2.2.2.2.2.2.2.2.2.2.2.2.1), (hf2.2.2.2.2.2.2.2.2.2.2.2.2.2.2.2.2.2.2.2.2.2.2.2.2.2.2.2.2.2.2.2.2.2.2.2.2.1).trans (hFV.2.2.2.2.2.2.2.2.2.2.2.2.2.2.2.2.2.2.2.2.2.2.2.2.2.2.2.2.2.2.2.2.1), (hf2.2.2.2.2.2.2.2.2.2.2.2.2.2.2.2.2.2.2.2.2.2.2.2.2.2.2.2.2.2.2.2.2.2.2.2.2.2.1).trans (hFV.2.2.2.2.2.2.2.2.2.2.2.2.2.2.2.2.2.2.2.2.2.2.2.2.2.2.2.2.2.2.2.2.2.1), (hf2.2.2.2.2.2.2.2.2.2.2.2.2.2.2.2.2.2.2.2.2.2.2.2.2.2.2.2.2.2.2.2.2.2.2.2.2.2.2.1).trans (hFV.2.2.2.2.2.2.2.2.2.2.2.2.2.2.2.2.2.2.2.2.2.2.2.2.2.2.2.2.2.2.2.2.2.2.1), (hf2.2.2.2.2.2.2.2.2.2.2.2.2.2.2.2.2.2.2.2.2.2.2.2.2.2.2.2.2.2.2.2.2.2.2.2.2.2.2.2.1).trans (hFV.2.2.2.2.2.2.2.2.2.2.2.2.2.2.2.2.2.2.2.2.2.2.2.2.2.2.2.2.2.2.2.2.2.2.2.1), (hf2.2.2.2.2.2.2.2.2.2.2.2.2.2.2.2.2.2.2.2.2.2.2.2.2.2.2.2.2.2.2.2.2.2.2.2.2.2.2.2.2.1).trans (hFV.2.2.2.2.2.2.2.2.2.2.2.2.2.2.2.2.2.2.2.2.2.2.2.2.2.2.2.2.2.2.2.2.2.2.2.2.1), (hf2.2.2.2.2.2.2.2.2.2.2.2.2.2.2.2.2.2.2.2.2.2.2.2.2.2.2.2.2.2.2.2.2.2.2.2.2.2.2.2.2.2.1).trans (hFV.2.2.2.2.2.2.2.2.2.2.2.2.2.2.2.2.2.2.2.2.2.2.2.2.2.2.2.2.2.2.2.2.2.2.2.2.2.1), (hf2.2.2.2.2.2.2.2.2.2.2.2.2.2.2.2.2.2.2.2.2.2.2.2.2.2.2.2.2.2.2.2.2.2.2.2.2.2.2.2.2.2.2).trans (hFV.2.2.2.2.2.2.2.2.2.2.2.2.2.2.2.2.2.2.2.2.2.2.2.2.2.2.2.2.2.2.2.2.2.2.2.2.2.2)⟩
  have nV : b9g_now u2 = b9g_now S := hF2.2.1
  have kV : b9g_keys u2 = b9g_keys S := hF2.2.2.1
  have lV : b9g_lengths u2 = b9g_lengths S := hF2.2.2.2.1
  have n9 := (J9g_now hJ2).2.2.2.1
  rw [nV] at n9 h1
  refine ⟨fun c => ?_, fun c => ?_⟩
  · simp only [pn] at c
    exact hq _ _ hJ2 hF2 (Or.inl rfl) (fun hs p1 p8 r0 r8 => Or.inr ⟨rfl, fun i hi => hI hs p1 p8 r0 r8 i (by omega) hi⟩)
  simp only [pn] at c
  refine sf_X9_bounds hJ2 h0 (by omega) (fun u4 hJ4 hf4 hB => ?_)
  have hF4 : F_X9_leafFor S u4 := ⟨(hf4.1).trans (hF2.1), (hf4.2.1).trans (hF2.2.1), (hf4.2.2.1).trans (hF2.2.2.1), (hf4.2.2.2.1).trans (hF2.2.2.2.1), (hf4.2.2.2.2.1).trans (hF2.2.2.2.2.1), (hf4.2.2.2.2.2.1).trans (hF2.2.2.2.2.2.1), (hf4.2.2.2.2.2.2.1).trans (hF2.2.2.2.2.2.2.1), (hf4.2.2.2.2.2.2.2.1).trans (hF2.2.2.2.2.2.2.2.1), (hf4.2.2.2.2.2.2.2.2.1).trans (hF2.2.2.2.2.2.2.2.2.1), (hf4.2.2.2.2.2.2.2.2.2.1).trans (hF2.2.2.2.2.2.2.2.2.2.1), (hf4.2.2.2.2.2.2.2.2.2.2.2.2.2.1).trans (hF2.2.2.2.2.2.2.2.2.2.2.1), (hf4.2.2.2.2.2.2.2.2.2.2.2.2.2.2.1).trans (hF2.2.2.2.2.2.2.2.2.2.2.2.1), (hf4.2.2.2.2.2.2.2.2.2.2.2.2.2.2.2.1).trans (hF2.2.2.2.2.2.2.2.2.2.2.2.2.1), (hf4.2.2.2.2.2.2.2.2.2.2.2.2.2.2.2.2.1).trans (hF2.2.2.2.2.2.2.2.2.2.2.2.2.2.1), (hf4.2.2.2.2.2.2.2.2.2.2.2.2.2.2.2.2.2.1).trans (hF2.2.2.2.2.2.2.2.2.2.2.2.2.2.2.1), (hf4.2.2.2.2.2.2.2.2.2.2.2.2.2.2.2.2.2.2.1).trans (hF2.2.2.2.2.2.2.2.2.2.2.2.2.2.2.2.1), (hf4.2.2.2.2.2.2.2.2.2.2.2.2.2.2.2.2.2.2.2.1).trans (hF2.2.2.2.2.2.2.2.2.2.2.2.2.2.2.2.2.1), (hf4.2.2.2.2.2.2.2.2.2.2.2.2.2.2.2.2.2.2.2.2.1).trans (hF2.2.2.2.2.2.2.2.2.2.2.2.2.2.2.2.2.2.1), (hf4.2.2.2.2.2.2.2.2.2.2.2.2.2.2.2.2.2.2.2.2.2.1).trans (hF2.2.2.2.2.2.2.2.2.2.2.2.2.2.2.2.2.2.2.1), (hf4.2.2.2.2.2.2.2.2.2.2.2.2.2.2.2.2.2.2.2.2.2.2.1).trans (hF2.2.2.2.2.2.2.2.2.2.2.2.2.2.2.2.2.2.2.2.1), (hf4.2.2.2.2.2.2.2.2.2.2.2.2.2.2.2.2.2.2.2.2.2.2.2.1).trans (hF2.2.2.2.2.2.2.2.2.2.2.2.2.2.2.2.2.2.2.2.2.1), (hf4.2.2.2.2.2.2.2.2.2.2.2.2.2.2.2.2.2.2.2.2.2.2.2.2.1).trans (hF2.2.2.2.2.2.2.2.2.2.2.2.2.2.2.2.2.2.2.2.2.2.1), (hf4.2.2.2.2.2.2.2.2.2.2.2.2.2.2.2.2.2.2.2.2.2.2.2.2.2.1).trans (hF2.2.2.2.2.2.2.2.2.2.2.2.2.2.2.2.2.2.2.2.2.2.2.1), (hf4.2.2.2.2.2.2.2.2.2.2.2.2.2.2.2.2.2.2.2.2.2.2.2.2.2.2.1).trans (hF2.2.2.2.2.2.2.2.2.2.2.2.2.2.2.2.2.2.2.2.2.2.2.2.1), (hf4.2.2.2.2.2.2.2.2.2.2.2.2.2.2.2.2.2.2.2.2.2.2.2.2.2.2.2.1).trans (hF2.2.2.2.2.2.2.2.2.2.2.2.2.2.2.2.2.2.2.2.2.2.2.2.2.1), (hf4.2.2.2.2.2.2.2.2.2.2.2.2.2.2.2.2.2.2.2.2.2.2.2.2.2.2.2.2.1).trans (hF2.2.2.2.2.2.2.2.2.2.2.2.2.2.2.2.2.2.2.2.2.2.2.2.2.2.1), (hf4.2.2.2.2.2.2.2.2.2.2.2.2.2.2.2.2.2.2.2.2.2.2.2.2.2.2.2.2.2.1).trans (hF2.2.2.2.2.2.2.2.2.2.2.2.2.2.2.2.2.2.2.2.2.2.2.2.2.2.2.1), (hf4.2.2.2.2.2.2.2.2.2.2.2.2.2.2.2.2.2.2.2.2.2.2.2.2.2.2.2.2.2.2.1).trans (hF2.2.2.2.2.2.2.2.2.2.2.2.2.2.2.2.2.2.2.2.2.2.2.2.2.2.2.2.1), (hf4.2.2.2.2.2.2.2.2.2.2.2.2.2.2.2.2.2.2.2.2.2.2.2.2.2.2.2.2.2.2.2.1).trans (hF2.2.2.2.2.2.2.2.2.2.2.2.2.2.2.2.2.2.2.2.2.2.2.2.2.2.2.2.2.1), (hf4.2.2.2.2.2.2.2.2.2.2.2.2.2.2.2.2.2.2.2.2.2.2.2.2.2.2.2.2.2.2.2.2.1).trans (hF2.2.2.2.2.2.2.2.2.2.2.2.2.2.2.2.2.2.2.2.2.2.2.2.2.2.2.2.2.2.1), (hf4.2.2.2.2.2.2.2.2.2.2.2.2.2.2.2.2.2.2.2.2.2.2.2.2.2.2.2.2.2.2.2.2.2.1).trans (hF2.2.2.2.2.2.2.2.2.2.2.2.2.2.2.2.2.2.2.2.2.2.2.2.2.2.2.2.2.2.2.1), (hf4.2.2.2.2.2.2.2.2.2.2.2.2.2.2.2.2.2.2.2.2.2.2.2.2.2.2.2.2.2.2.2.2.2.2.1).trans (hF2.2.2.2.2.2.2.2.2.2.2.2.2.2.2.2.2.2.2.2.2.2.2.2.2.2.2.2.2.2.2.2.1), (hf4.2.2.2.2.2.2.2.2.2.2.2.2.2.2.2.2.2.2.2.2.2.2.2.2.2.2.2.2.2.2.2.2.2.2.2.1).trans (hF2.2.2.2.2.2.2.2.2.2.2.2.2.2.2.2.2.2.2.2.2.2.2.2.2.2.2.2.2.2.2.2.2.1), (hf4.2.2.2.2.2.2.2.2.2.2.2.2.2.2.2.2.2.2.2.2.2.2.2.2.2.2.2.2.2.2.2.2.2.2.2.2.1).trans (hF2.2.2.2.2.2.2.2.2.2.2.2.2.2.2.2.2.2.2.2.2.2.2.2.2.2.2.2.2.2.2.2.2.2.1), (hf4.2.2.2.2.2.2.2.2.2.2.2.2.2.2.2.2.2.2.2.2.2.2.2.2.2.2.2.2.2.2.2.2.2.2.2.2.2.1).trans (hF2.2.2.2.2.2.2.2.2.2.2.2.2.2.2.2.2.2.2.2.2.2.2.2.2.2.2.2.2.2.2.2.2.2.2.1), (hf4.2.2.2.2.2.2.2.2.2.2.2.2.2.2.2.2.2.2.2.2.2.2.2.2.2.2.2.2.2.2.2.2.2.2.2.2.2.2.1).trans (hF2.2.2.2.2.2.2.2.2.2.2.2.2.2.2.2.2.2.2.2.2.2.2.2.2.2.2.2.2.2.2.2.2.2.2.2.1), (hf4.2.2.2.2.2.2.2.2.2.2.2.2.2.2.2.2.2.2.2.2.2.2.2.2.2.2.2.2.2.2.2.2.2.2.2.2.2.2.2.1).trans (hF2.2.2.2.2.2.2.2.2.2.2.2.2.2.2.2.2.2.2.2.2.2.2.2.2.2.2.2.2.2.2.2.2.2.2.2.2.1), (hf4.2.2.2.2.2.2.2.2.2.2.2.2.2.2.2.2.2.2.2.2.2.2.2.2.2.2.2.2.2.2.2.2.2.2.2.2.2.2.2.2.1).trans (hF2.2.2.2.2.2.2.2.2.2.2.2.2.2.2.2.2.2.2.2.2.2.2.2.2.2.2.2.2.2.2.2.2.2.2.2.2.2.1), (hf4.2.2.2.2.2.2.2.2.2.2.2.2.2.2.2.2.2.2.2.2.2.2.2.2.2.2.2.2.2.2.2.2.2.2.2.2.2.2.2.2.2).trans (hF2.2.2.2.2.2.2.2.2.2.2.2.2.2.2.2.2.2.2.2.2.2.2.2.2.2.2.2.2.2.2.2.2.2.2.2.2.2.2)⟩
  unfold SR9 BDS at hB
  rw [kV, lV, nV] at hB
  have cx := pt_clamp h0
  have x5' : (x5 + 1).toInt = x5.toInt + 1 := by rw [pt_add (by rw [pl_1]; omega) (by rw [pl_1]; omega), pl_1]
  have next : (SR9 S → 1 ≤ a3.toInt → a3.toInt ≤ 8 → 0 ≤ a4.toInt → a4.toInt ≤ 8 → (NLT (ub a1) a3.toInt.toNat (LOV (fun j => b9g_keys S (64 + j)) (fun j => b9g_lengths S (64 + j)) (b9g_now S 9).toInt a4 x5.toNatClampNeg) (LOL (fun j => b9g_keys S (64 + j)) (fun j => b9g_lengths S (64 + j)) (b9g_now S 9).toInt a4 x5.toNatClampNeg) ∨ NLT (HIV (fun j => b9g_keys S (64 + j)) (fun j => b9g_lengths S (64 + j)) (b9g_now S 9).toInt a4 x5.toNatClampNeg) (HIL (fun j => b9g_keys S (64 + j)) (fun j => b9g_lengths S (64 + j)) (b9g_now S 9).toInt x5.toNatClampNeg) (ub a1) a3.toInt.toNat)) → wp_X9_leafFor_41 u4 a1 a3 a4 x5 Q (fun x1 x3 x4 x5 S_1 => ∃ n2 : Nat, n2 < n ∧ x1 = a1 ∧ x3 = a3 ∧ x4 = a4 ∧ 0 ≤ x5.toInt ∧ x5.toInt ≤ 64 ∧ J9 S_1 ∧ F_X9_leafFor S S_1 ∧ (SR9 S → 1 ≤ a3.toInt → a3.toInt ≤ 8 → 0 ≤ a4.toInt → a4.toInt ≤ 8 → ∀ i : Nat, (i : Int) < (x5).toInt → (i : Int) < (b9g_now S 9).toInt → (NLT (ub a1) a3.toInt.toNat (LOV (fun j => b9g_keys S (64 + j)) (fun j => b9g_lengths S (64 + j)) (b9g_now S 9).toInt a4 i) (LOL (fun j => b9g_keys S (64 + j)) (fun j => b9g_lengths S (64 + j)) (b9g_now S 9).toInt a4 i) ∨ NLT (HIV (fun j => b9g_keys S (64 + j)) (fun j => b9g_lengths S (64 + j)) (b9g_now S 9).toInt a4 i) (HIL (fun j => b9g_keys S (64 + j)) (fun j => b9g_lengths S (64 + j)) (b9g_now S 9).toInt i) (ub a1) a3.toInt.toNat)) ∧ n2 = (64 - x5.toInt).toNat) := by
    intro hx
    unfold wp_X9_leafFor_41
    refine ⟨_, ?_, rfl, rfl, rfl, by omega, by omega, hJ4, hF4, fun hs p1 p8 r0 r8 i hi hlt => ?_, rfl⟩
    · omega
    · by_cases e : i = x5.toNatClampNeg
      · rw [e]
        exact hx hs p1 p8 r0 r8
      · exact hI hs p1 p8 r0 r8 i (by omega) hlt
  have bv : SR9 S → 1 ≤ a3.toInt → a3.toInt ≤ 8 → 0 ≤ a4.toInt → a4.toInt ≤ 8 → (KLT a1 a3 (b9g_lowKey u4) (b9g_lowLength u4) ↔ NLT (ub a1) a3.toInt.toNat (LOV (fun j => b9g_keys S (64 + j)) (fun j => b9g_lengths S (64 + j)) (b9g_now S 9).toInt a4 x5.toNatClampNeg) (LOL (fun j => b9g_keys S (64 + j)) (fun j => b9g_lengths S (64 + j)) (b9g_now S 9).toInt a4 x5.toNatClampNeg)) ∧ (KLT (b9g_highKey u4) (b9g_highLength u4) a1 a3 ↔ NLT (HIV (fun j => b9g_keys S (64 + j)) (fun j => b9g_lengths S (64 + j)) (b9g_now S 9).toInt a4 x5.toNatClampNeg) (HIL (fun j => b9g_keys S (64 + j)) (fun j => b9g_lengths S (64 + j)) (b9g_now S 9).toInt x5.toNatClampNeg) (ub a1) a3.toInt.toNat) := by
    intro hs p1 p8 r0 r8
    obtain ⟨b1, b2, b3, b4⟩ := hB hs hil r0 r8 (by omega)
    have p3 : a3.toInt = (a3.toInt.toNat : Nat) := by omega
    exact ⟨KLT_nlt rfl b1 p3 b2, KLT_nlt b3 rfl b4 p3⟩
  unfold wp_X9_isAhead
  refine fx_isLess (fun r5 z5 q5 => ⟨z5, fun d => next (fun hs p1 p8 r0 r8 => ?_), fun d => ?_⟩)
  · simp only [pn] at d
    rcases q5 with ⟨_, q⟩ | ⟨q, _⟩
    · exact Or.inl ((bv hs p1 p8 r0 r8).1.mp q)
    · omega
  have k5 : ¬ KLT a1 a3 (b9g_lowKey u4) (b9g_lowLength u4) := by
    rcases q5 with ⟨q, _⟩ | ⟨_, q⟩
    · rw [d, pl_0] at q; omega
    · exact q
  unfold wp_X9_isBehind
  refine fx_isLess (fun r7 z7 q7 => ⟨z7, fun d2 => next (fun hs p1 p8 r0 r8 => ?_), fun d2 => ?_⟩)
  · simp only [pn] at d2
    rcases q7 with ⟨_, q⟩ | ⟨q, _⟩
    · exact Or.inr ((bv hs p1 p8 r0 r8).2.mp q)
    · omega
  have k7 : ¬ KLT (b9g_highKey u4) (b9g_highLength u4) a1 a3 := by
    rcases q7 with ⟨q, _⟩ | ⟨_, q⟩
    · rw [d2, pl_0] at q; omega
    · exact q
  refine hq _ _ hJ4 hF4 (Or.inr ⟨h0, by omega⟩) (fun hs p1 p8 r0 r8 => Or.inl ⟨h0, by omega, fun i hi => ?_⟩)
  have e : i = x5.toNatClampNeg := by omega
  rw [e]
  obtain ⟨b1, b2⟩ := bv hs p1 p8 r0 r8
  exact ⟨fun h => k5 (b1.mpr h), fun h => k7 (b2.mpr h)⟩
theorem sf_X9_hash {S : bT9} (hJ : K9 S) {a1 : Int64} {a3 : Int32} {a4 : Int32} {Q : Int32 → Prop} (hq : ∀ r : Int32, (a3.toInt ≤ 8 → r = LWS (MIX (b9g_now S 16) a1 a3) a4) → Q r) : wp_X9_hash S a1 a3 a4 Q := by
  have rg := pt_rg a3
  unfold wp_X9_hash wp_X9_hash_12
  refine ⟨pt_in (by decide) (by decide), ?_⟩
  refine ⟨fun n x1 x3 x4 x5 x6 => x1 = a1 ∧ x3 = a3 ∧ x4 = a4 ∧ 0 ≤ x6.toInt ∧ (x6.toInt = 0 ∨ x6.toInt ≤ a3.toInt) ∧ (a3.toInt ≤ 8 → x5 = mixN (b9g_now S 16) a1 x6.toInt.toNat) ∧ n = (a3.toInt + 1 - x6.toInt).toNat, ⟨_, rfl, rfl, rfl, by decide, Or.inl rfl, fun _ => by rw [z0]; rfl, rfl⟩, ?_⟩
  rintro n x1 x3 x4 x5 x6 ⟨e1, e3, e4, h0, hle, hk, hn⟩
  unfold wp_X9_hash_12b
  rw [e1, e3, e4]
  refine ⟨fun c => ?_, fun c => ?_⟩
  · intro v1 ev
    refine hq _ (fun h8 => ?_)
    simp only [pn] at c
    have hx : x6.toInt.toNat = a3.toInt.toNat := by omega
    rw [ev, hk h8, hx]
    rfl
  simp only [pn] at c
  refine fx9_byteOf ?_
  intro v4 e4'
  have x6' : (x6 + 1).toInt = x6.toInt + 1 := by rw [pt_add (by rw [pl_1]; omega) (by rw [pl_1]; omega), pl_1]
  refine ⟨_, ?_, rfl, rfl, rfl, by omega, by omega, fun h8 => ?_, rfl⟩
  · omega
  · rw [e4', hk h8, mixN_s h0 (by omega)]
def F_X9_mayBe (S u : bT9) : Prop := (b9g_told u) = (b9g_told S) ∧ (b9g_now u) = (b9g_now S) ∧ (b9g_keys u) = (b9g_keys S) ∧ (b9g_lengths u) = (b9g_lengths S) ∧ (b9g_drawn u) = (b9g_drawn S) ∧ (b9g_drawnLength u) = (b9g_drawnLength S) ∧ (b9g_tape u) = (b9g_tape S) ∧ (b9g_taped u) = (b9g_taped S) ∧ (b9g_names u) = (b9g_names S) ∧ (b9g_chosen u) = (b9g_chosen S) ∧ (b9g_nodeLevel u) = (b9g_nodeLevel S) ∧ (b9g_nodeLeaf u) = (b9g_nodeLeaf S) ∧ (b9g_nodeLeaves u) = (b9g_nodeLeaves S) ∧ (b9g_nodeMany u) = (b9g_nodeMany S) ∧ (b9g_levelMany u) = (b9g_levelMany S) ∧ (b9g_upper u) = (b9g_upper S) ∧ (b9g_upperNodes u) = (b9g_upperNodes S) ∧ (b9g_areNodesLaid u) = (b9g_areNodesLaid S) ∧ (b9g_itemNode u) = (b9g_itemNode S) ∧ (b9g_itemByte u) = (b9g_itemByte S) ∧ (b9g_itemChild u) = (b9g_itemChild S) ∧ (b9g_itemMany u) = (b9g_itemMany S) ∧ (b9g_placeOf u) = (b9g_placeOf S) ∧ (b9g_leafOfPlace u) = (b9g_leafOfPlace S) ∧ (b9g_places u) = (b9g_places S) ∧ (b9g_fromKey u) = (b9g_fromKey S) ∧ (b9g_toKey u) = (b9g_toKey S) ∧ (b9g_fromLength u) = (b9g_fromLength S) ∧ (b9g_toLength u) = (b9g_toLength S) ∧ (b9g_ones u) = (b9g_ones S) ∧ (b9g_oneMany u) = (b9g_oneMany S) ∧ (b9g_rowLong u) = (b9g_rowLong S) ∧ (b9g_laidFor u) = (b9g_laidFor S) ∧ (b9g_signs u) = (b9g_signs S) ∧ (b9g_signMany u) = (b9g_signMany S) ∧ (b9g_hasImage u) = (b9g_hasImage S) ∧ (b9g_images u) = (b9g_images S) ∧ (b9g_keyImages u) = (b9g_keyImages S) ∧ (b9g_lengthImages u) = (b9g_lengthImages S)
theorem sf_X9_mayBe {S : bT9} (hJ : J9 S) {a1 : Int64} {a3 : Int32} {a4 : Int32} {a5 : Int32} {Q : Int32 → (bT9) → Prop} (hq : ∀ (r : Int32) (u : bT9), (J9 u) → F_X9_mayBe S u → bf_bool r → (SR9 S → 1 ≤ a3.toInt → a3.toInt ≤ 8 → 0 ≤ a5.toInt → a5.toInt ≤ 8 → MAY (fun j => b9g_keys S (64 + j)) (fun j => b9g_lengths S (64 + j)) (b9g_now S 9).toInt a5 (b9g_now S 16) a4 a1 a3 r.toInt) → Q r u) : wp_X9_mayBe S a1 a3 a4 a5 Q := by
  unfold wp_X9_mayBe
  refine sf_X9_leafFor hJ (fun r1 u2 hJ2 hf2 h1 hL => ?_)
  have hF2 : F_X9_mayBe S u2 := ⟨hf2.1, hf2.2.1, hf2.2.2.1, hf2.2.2.2.1, hf2.2.2.2.2.1, hf2.2.2.2.2.2.1, hf2.2.2.2.2.2.2.1, hf2.2.2.2.2.2.2.2.1, hf2.2.2.2.2.2.2.2.2.1, hf2.2.2.2.2.2.2.2.2.2.1, hf2.2.2.2.2.2.2.2.2.2.2.1, hf2.2.2.2.2.2.2.2.2.2.2.2.1, hf2.2.2.2.2.2.2.2.2.2.2.2.2.1, hf2.2.2.2.2.2.2.2.2.2.2.2.2.2.1, hf2.2.2.2.2.2.2.2.2.2.2.2.2.2.2.1, hf2.2.2.2.2.2.2.2.2.2.2.2.2.2.2.2.1, hf2.2.2.2.2.2.2.2.2.2.2.2.2.2.2.2.2.1, hf2.2.2.2.2.2.2.2.2.2.2.2.2.2.2.2.2.2.1, hf2.2.2.2.2.2.2.2.2.2.2.2.2.2.2.2.2.2.2.1, hf2.2.2.2.2.2.2.2.2.2.2.2.2.2.2.2.2.2.2.2.1, hf2.2.2.2.2.2.2.2.2.2.2.2.2.2.2.2.2.2.2.2.2.1, hf2.2.2.2.2.2.2.2.2.2.2.2.2.2.2.2.2.2.2.2.2.2.1, hf2.2.2.2.2.2.2.2.2.2.2.2.2.2.2.2.2.2.2.2.2.2.2.1, hf2.2.2.2.2.2.2.2.2.2.2.2.2.2.2.2.2.2.2.2.2.2.2.2.1, hf2.2.2.2.2.2.2.2.2.2.2.2.2.2.2.2.2.2.2.2.2.2.2.2.2.1, hf2.2.2.2.2.2.2.2.2.2.2.2.2.2.2.2.2.2.2.2.2.2.2.2.2.2.1, hf2.2.2.2.2.2.2.2.2.2.2.2.2.2.2.2.2.2.2.2.2.2.2.2.2.2.2.1, hf2.2.2.2.2.2.2.2.2.2.2.2.2.2.2.2.2.2.2.2.2.2.2.2.2.2.2.2.1, hf2.2.2.2.2.2.2.2.2.2.2.2.2.2.2.2.2.2.2.2.2.2.2.2.2.2.2.2.2.1, hf2.2.2.2.2.2.2.2.2.2.2.2.2.2.2.2.2.2.2.2.2.2.2.2.2.2.2.2.2.2.1, hf2.2.2.2.2.2.2.2.2.2.2.2.2.2.2.2.2.2.2.2.2.2.2.2.2.2.2.2.2.2.2.1, hf2.2.2.2.2.2.2.2.2.2.2.2.2.2.2.2.2.2.2.2.2.2.2.2.2.2.2.2.2.2.2.2.1, hf2.2.2.2.2.2.2.2.2.2.2.2.2.2.2.2.2.2.2.2.2.2.2.2.2.2.2.2.2.2.2.2.2.1, hf2.2.2.2.2.2.2.2.2.2.2.2.2.2.2.2.2.2.2.2.2.2.2.2.2.2.2.2.2.2.2.2.2.2.1, hf2.2.2.2.2.2.2.2.2.2.2.2.2.2.2.2.2.2.2.2.2.2.2.2.2.2.2.2.2.2.2.2.2.2.2.1, hf2.2.2.2.2.2.2.2.2.2.2.2.2.2.2.2.2.2.2.2.2.2.2.2.2.2.2.2.2.2.2.2.2.2.2.2.1, hf2.2.2.2.2.2.2.2.2.2.2.2.2.2.2.2.2.2.2.2.2.2.2.2.2.2.2.2.2.2.2.2.2.2.2.2.2.1, hf2.2.2.2.2.2.2.2.2.2.2.2.2.2.2.2.2.2.2.2.2.2.2.2.2.2.2.2.2.2.2.2.2.2.2.2.2.2.1, hf2.2.2.2.2.2.2.2.2.2.2.2.2.2.2.2.2.2.2.2.2.2.2.2.2.2.2.2.2.2.2.2.2.2.2.2.2.2.2⟩
  have nV : b9g_now u2 = b9g_now S := hF2.2.1
  have kV : b9g_keys u2 = b9g_keys S := hF2.2.2.1
  have lV : b9g_lengths u2 = b9g_lengths S := hF2.2.2.2.1
  refine ⟨fun c => ⟨rfl, hq _ _ hJ2 hF2 rfl (fun hs p1 p8 r0 r8 => ⟨-1, ?_, Or.inr ⟨rfl, fun i hi => by omega⟩⟩)⟩, fun c => ?_⟩
  · have := hL hs p1 p8 r0 r8
    rw [c] at this
    exact this
  have r0 : 0 ≤ r1.toInt ∧ r1.toInt ≤ 63 := by
    rcases h1 with h | h
    · exact absurd (Int32.toInt_inj.mp (by rw [pl_m1]; exact h)) c
    · exact h
  have cx := pt_clamp r0.1
  refine sf_X9_hash hJ2.1 (fun r3 g3 => fx9_key r0.1 r0.2 (fx9_lengthOf r0.1 r0.2 (sf_X9_hash hJ2.1 (fun r9 g9 => ?_))))
  have gl := J9g_lengths hJ2 (64 + r1.toNatClampNeg)
  have g9' := g9 gl.2
  rw [nV, kV, lV] at g9'
  rw [nV] at g3
  refine ⟨fun d => ⟨rfl, hq _ _ hJ2 hF2 rfl (fun hs p1 p8 s0 s8 => ⟨r1.toInt, hL hs p1 p8 s0 s8, Or.inr ⟨rfl, fun i hi => ?_⟩⟩)⟩, fun d => ⟨rfl, hq _ _ hJ2 hF2 rfl (fun hs p1 p8 s0 s8 => ⟨r1.toInt, hL hs p1 p8 s0 s8, Or.inl ⟨rfl, r0.1, fun i hi => ?_⟩⟩)⟩⟩
  · have e : i = r1.toNatClampNeg := by omega
    rw [e, ← g3 p8]
    show r3 ≠ LWS (MIX (b9g_now S 16) (b9g_keys S (64 + r1.toNatClampNeg)) (b9g_lengths S (64 + r1.toNatClampNeg))) a4
    rw [← g9']
    exact d
  · have e : i = r1.toNatClampNeg := by omega
    rw [e, ← g3 p8]
    show r3 = LWS (MIX (b9g_now S 16) (b9g_keys S (64 + r1.toNatClampNeg)) (b9g_lengths S (64 + r1.toNatClampNeg))) a4
    rw [← g9']
    exact d
def F_X9_mayNow (S u : bT9) : Prop := (b9g_told u) = (b9g_told S) ∧ (b9g_now u) = (b9g_now S) ∧ (b9g_keys u) = (b9g_keys S) ∧ (b9g_lengths u) = (b9g_lengths S) ∧ (b9g_drawn u) = (b9g_drawn S) ∧ (b9g_drawnLength u) = (b9g_drawnLength S) ∧ (b9g_tape u) = (b9g_tape S) ∧ (b9g_taped u) = (b9g_taped S) ∧ (b9g_names u) = (b9g_names S) ∧ (b9g_chosen u) = (b9g_chosen S) ∧ (b9g_nodeLevel u) = (b9g_nodeLevel S) ∧ (b9g_nodeLeaf u) = (b9g_nodeLeaf S) ∧ (b9g_nodeLeaves u) = (b9g_nodeLeaves S) ∧ (b9g_nodeMany u) = (b9g_nodeMany S) ∧ (b9g_levelMany u) = (b9g_levelMany S) ∧ (b9g_upper u) = (b9g_upper S) ∧ (b9g_upperNodes u) = (b9g_upperNodes S) ∧ (b9g_areNodesLaid u) = (b9g_areNodesLaid S) ∧ (b9g_itemNode u) = (b9g_itemNode S) ∧ (b9g_itemByte u) = (b9g_itemByte S) ∧ (b9g_itemChild u) = (b9g_itemChild S) ∧ (b9g_itemMany u) = (b9g_itemMany S) ∧ (b9g_placeOf u) = (b9g_placeOf S) ∧ (b9g_leafOfPlace u) = (b9g_leafOfPlace S) ∧ (b9g_places u) = (b9g_places S) ∧ (b9g_fromKey u) = (b9g_fromKey S) ∧ (b9g_toKey u) = (b9g_toKey S) ∧ (b9g_fromLength u) = (b9g_fromLength S) ∧ (b9g_toLength u) = (b9g_toLength S) ∧ (b9g_ones u) = (b9g_ones S) ∧ (b9g_oneMany u) = (b9g_oneMany S) ∧ (b9g_rowLong u) = (b9g_rowLong S) ∧ (b9g_laidFor u) = (b9g_laidFor S) ∧ (b9g_signs u) = (b9g_signs S) ∧ (b9g_signMany u) = (b9g_signMany S) ∧ (b9g_hasImage u) = (b9g_hasImage S) ∧ (b9g_images u) = (b9g_images S) ∧ (b9g_keyImages u) = (b9g_keyImages S) ∧ (b9g_lengthImages u) = (b9g_lengthImages S)
theorem sf_X9_mayNow {S : bT9} (hJ : J9 S) {a1 : Int64} {a3 : Int32} {Q : Int32 → (bT9) → Prop} (hq : ∀ (r : Int32) (u : bT9), (J9 u) → F_X9_mayNow S u → bf_bool r → (SR9 S → 1 ≤ a3.toInt → a3.toInt ≤ 8 → MAY (fun j => b9g_keys S (64 + j)) (fun j => b9g_lengths S (64 + j)) (b9g_now S 9).toInt (NBT (b9g_now S)) (b9g_now S 16) (HBT (b9g_now S)) a1 a3 r.toInt) → Q r u) : wp_X9_mayNow S a1 a3 Q := by
  unfold wp_X9_mayNow
  refine sf_X9_hashBits hJ.1 (fun r1 h1 => sf_X9_nextBits hJ.1 (fun r3 p0 p8 h3 => sf_X9_mayBe hJ (fun r5 u6 hJ6 hf6 z5 hM => ⟨z5, hq _ _ hJ6 ⟨hf6.1, hf6.2.1, hf6.2.2.1, hf6.2.2.2.1, hf6.2.2.2.2.1, hf6.2.2.2.2.2.1, hf6.2.2.2.2.2.2.1, hf6.2.2.2.2.2.2.2.1, hf6.2.2.2.2.2.2.2.2.1, hf6.2.2.2.2.2.2.2.2.2.1, hf6.2.2.2.2.2.2.2.2.2.2.1, hf6.2.2.2.2.2.2.2.2.2.2.2.1, hf6.2.2.2.2.2.2.2.2.2.2.2.2.1, hf6.2.2.2.2.2.2.2.2.2.2.2.2.2.1, hf6.2.2.2.2.2.2.2.2.2.2.2.2.2.2.1, hf6.2.2.2.2.2.2.2.2.2.2.2.2.2.2.2.1, hf6.2.2.2.2.2.2.2.2.2.2.2.2.2.2.2.2.1, hf6.2.2.2.2.2.2.2.2.2.2.2.2.2.2.2.2.2.1, hf6.2.2.2.2.2.2.2.2.2.2.2.2.2.2.2.2.2.2.1, hf6.2.2.2.2.2.2.2.2.2.2.2.2.2.2.2.2.2.2.2.1, hf6.2.2.2.2.2.2.2.2.2.2.2.2.2.2.2.2.2.2.2.2.1, hf6.2.2.2.2.2.2.2.2.2.2.2.2.2.2.2.2.2.2.2.2.2.1, hf6.2.2.2.2.2.2.2.2.2.2.2.2.2.2.2.2.2.2.2.2.2.2.1, hf6.2.2.2.2.2.2.2.2.2.2.2.2.2.2.2.2.2.2.2.2.2.2.2.1, hf6.2.2.2.2.2.2.2.2.2.2.2.2.2.2.2.2.2.2.2.2.2.2.2.2.1, hf6.2.2.2.2.2.2.2.2.2.2.2.2.2.2.2.2.2.2.2.2.2.2.2.2.2.1, hf6.2.2.2.2.2.2.2.2.2.2.2.2.2.2.2.2.2.2.2.2.2.2.2.2.2.2.1, hf6.2.2.2.2.2.2.2.2.2.2.2.2.2.2.2.2.2.2.2.2.2.2.2.2.2.2.2.1, hf6.2.2.2.2.2.2.2.2.2.2.2.2.2.2.2.2.2.2.2.2.2.2.2.2.2.2.2.2.1, hf6.2.2.2.2.2.2.2.2.2.2.2.2.2.2.2.2.2.2.2.2.2.2.2.2.2.2.2.2.2.1, hf6.2.2.2.2.2.2.2.2.2.2.2.2.2.2.2.2.2.2.2.2.2.2.2.2.2.2.2.2.2.2.1, hf6.2.2.2.2.2.2.2.2.2.2.2.2.2.2.2.2.2.2.2.2.2.2.2.2.2.2.2.2.2.2.2.1, hf6.2.2.2.2.2.2.2.2.2.2.2.2.2.2.2.2.2.2.2.2.2.2.2.2.2.2.2.2.2.2.2.2.1, hf6.2.2.2.2.2.2.2.2.2.2.2.2.2.2.2.2.2.2.2.2.2.2.2.2.2.2.2.2.2.2.2.2.2.1, hf6.2.2.2.2.2.2.2.2.2.2.2.2.2.2.2.2.2.2.2.2.2.2.2.2.2.2.2.2.2.2.2.2.2.2.1, hf6.2.2.2.2.2.2.2.2.2.2.2.2.2.2.2.2.2.2.2.2.2.2.2.2.2.2.2.2.2.2.2.2.2.2.2.1, hf6.2.2.2.2.2.2.2.2.2.2.2.2.2.2.2.2.2.2.2.2.2.2.2.2.2.2.2.2.2.2.2.2.2.2.2.2.1, hf6.2.2.2.2.2.2.2.2.2.2.2.2.2.2.2.2.2.2.2.2.2.2.2.2.2.2.2.2.2.2.2.2.2.2.2.2.2.1, hf6.2.2.2.2.2.2.2.2.2.2.2.2.2.2.2.2.2.2.2.2.2.2.2.2.2.2.2.2.2.2.2.2.2.2.2.2.2.2⟩ z5 (fun hs q1 q8 => ?_)⟩)))
  rw [← h1, ← h3]
  exact hM hs q1 q8 p0 p8
theorem sf_X9_isOfFilter {S : bT9} (hJ : K9 S) {a1 : Int64} {a3 : Int32} {Q : Int32 → Prop} (hq : ∀ r : Int32, bf_bool r → (SR9 S → (r.toInt = 1 ∧ (∃ j : Nat, (j : Int) < (b9g_now S 9).toInt ∧ b9g_keys S (64 + j) = a1 ∧ b9g_lengths S (64 + j) = a3)) ∨ (r.toInt = 0 ∧ ¬ (∃ j : Nat, (j : Int) < (b9g_now S 9).toInt ∧ b9g_keys S (64 + j) = a1 ∧ b9g_lengths S (64 + j) = a3))) → Q r) : wp_X9_isOfFilter S a1 a3 Q := by
  have n9 := (K9g_now hJ).2.2.2.1
  unfold wp_X9_isOfFilter
  refine ⟨pt_in (by decide) (by decide), sf_X9_find hJ (by decide) n9.1 (show (64 : Int32).toInt + (b9g_now S 9).toInt ≤ 144 by rw [pl_64]; omega) (fun r1 h1 hN => ?_)⟩
  have hN' : SR9 S → NUM (fun j => b9g_keys S (64 + j)) (fun j => b9g_lengths S (64 + j)) (b9g_now S 9).toInt a1 a3 r1.toInt := by
    intro hs
    have q := hN (by rw [sh64, sh64']; exact hs)
    rw [sh64, sh64'] at q
    exact q
  refine ⟨fun c => ⟨rfl, hq _ rfl (fun hs => Or.inr ⟨rfl, ?_⟩)⟩, fun c => ⟨rfl, hq _ rfl (fun hs => Or.inl ⟨rfl, ?_⟩)⟩⟩
  · rcases hN' hs with ⟨q0, _, _⟩ | ⟨_, q⟩
    · rw [c, pl_m1] at q0; omega
    · rintro ⟨j, h1, h2⟩
      exact q j h1 h2
  · rcases hN' hs with ⟨q0, q1, q2⟩ | ⟨q, _⟩
    · exact ⟨r1.toInt.toNat, by omega, q2 _ (by omega)⟩
    · exact absurd (Int32.toInt_inj.mp (q.trans pl_m1.symm)) c
def F_X9_counts (S u : bT9) : Prop := (b9g_told u) = (b9g_told S) ∧ (b9g_keys u) = (b9g_keys S) ∧ (b9g_lengths u) = (b9g_lengths S) ∧ (b9g_drawn u) = (b9g_drawn S) ∧ (b9g_drawnLength u) = (b9g_drawnLength S) ∧ (b9g_tape u) = (b9g_tape S) ∧ (b9g_taped u) = (b9g_taped S) ∧ (b9g_names u) = (b9g_names S) ∧ (b9g_chosen u) = (b9g_chosen S) ∧ (b9g_common u) = (b9g_common S) ∧ (b9g_beginning u) = (b9g_beginning S) ∧ (b9g_isLaid u) = (b9g_isLaid S) ∧ (b9g_nodeLevel u) = (b9g_nodeLevel S) ∧ (b9g_nodeLeaf u) = (b9g_nodeLeaf S) ∧ (b9g_nodeLeaves u) = (b9g_nodeLeaves S) ∧ (b9g_nodeMany u) = (b9g_nodeMany S) ∧ (b9g_levelMany u) = (b9g_levelMany S) ∧ (b9g_upper u) = (b9g_upper S) ∧ (b9g_upperNodes u) = (b9g_upperNodes S) ∧ (b9g_areNodesLaid u) = (b9g_areNodesLaid S) ∧ (b9g_itemNode u) = (b9g_itemNode S) ∧ (b9g_itemByte u) = (b9g_itemByte S) ∧ (b9g_itemChild u) = (b9g_itemChild S) ∧ (b9g_itemMany u) = (b9g_itemMany S) ∧ (b9g_placeOf u) = (b9g_placeOf S) ∧ (b9g_leafOfPlace u) = (b9g_leafOfPlace S) ∧ (b9g_places u) = (b9g_places S) ∧ (b9g_lowKey u) = (b9g_lowKey S) ∧ (b9g_highKey u) = (b9g_highKey S) ∧ (b9g_lowLength u) = (b9g_lowLength S) ∧ (b9g_highLength u) = (b9g_highLength S) ∧ (b9g_fromKey u) = (b9g_fromKey S) ∧ (b9g_toKey u) = (b9g_toKey S) ∧ (b9g_fromLength u) = (b9g_fromLength S) ∧ (b9g_toLength u) = (b9g_toLength S) ∧ (b9g_ones u) = (b9g_ones S) ∧ (b9g_oneMany u) = (b9g_oneMany S) ∧ (b9g_rowLong u) = (b9g_rowLong S) ∧ (b9g_laidFor u) = (b9g_laidFor S) ∧ (b9g_signs u) = (b9g_signs S) ∧ (b9g_signMany u) = (b9g_signMany S) ∧ (b9g_hasImage u) = (b9g_hasImage S) ∧ (b9g_images u) = (b9g_images S) ∧ (b9g_keyImages u) = (b9g_keyImages S) ∧ (b9g_lengthImages u) = (b9g_lengthImages S)
theorem sf_X9_counts {S : bT9} (hJ : J9 S) {a1 : Int32} {a2 : Int32} {a3 : Int32} {Q : Int32 → (bT9) → Prop} (hp0 : 0 ≤ a1.toInt) (hp1 : a1.toInt ≤ 3) (hq : ∀ (r : Int32) (u : bT9), (J9 u) → F_X9_counts S u → (r = YN a3) → (b9g_now u = NTE (b9g_now S) (17 + a1.toNatClampNeg) (YN a2) (YN a3)) → (b9g_now u 10 = b9g_now S 10) → (b9g_now u 7 = b9g_now S 7) → (b9g_now u 4 = b9g_now S 4) → (b9g_now u 8 = b9g_now S 8) → Q r u) : wp_X9_counts S a1 a2 a3 Q := by
  have c1 := pt_clamp hp0
  have e0 : ((17 : Int32) + a1).toInt = 17 + a1.toInt := by rw [pt_add (by rw [pl_17]; omega) (by rw [pl_17]; omega), pl_17]
  have e1 : (((17 : Int32) + a1) + 1).toInt = 18 + a1.toInt := by rw [pt_add (by rw [pl_1]; omega) (by rw [pl_1]; omega), pl_1]; omega
  have e2 : (((17 : Int32) + a1) + 2).toInt = 19 + a1.toInt := by rw [pt_add (by rw [pl_2]; omega) (by rw [pl_2]; omega), pl_2]; omega
  obtain ⟨g, hg⟩ : ∃ g : Nat, 17 + a1.toNatClampNeg = g := ⟨_, rfl⟩
  have i0 : ((17 : Int32) + a1).toNatClampNeg = g := by have := pt_clamp (i := (17 : Int32) + a1) (by omega); omega
  have i1 : (((17 : Int32) + a1) + 1).toNatClampNeg = g + 1 := by have := pt_clamp (i := ((17 : Int32) + a1) + 1) (by omega); omega
  have i2 : (((17 : Int32) + a1) + 2).toNatClampNeg = g + 2 := by have := pt_clamp (i := ((17 : Int32) + a1) + 2) (by omega); omega
  have v0 : vp_in ((17 : Int32) + a1) 23 := pt_in (by omega) (by omega)
  have v1 : vp_in (((17 : Int32) + a1) + 1) 23 := pt_in (by omega) (by omega)
  have v2 : vp_in (((17 : Int32) + a1) + 2) 23 := pt_in (by omega) (by omega)
  obtain ⟨A, hA⟩ : ∃ A : Nat → Int32, b9g_now S = A := ⟨_, rfl⟩
  rw [hA, hg] at hq
  have JS : ∀ (T : bT9) (i x : Int32), J9 T → 17 ≤ i.toInt → J9 (b9s_now T (upd (b9g_now T) i.toNatClampNeg x)) := by
    intro T i x hT hi
    have ci := pt_clamp (i := i) (by omega)
    exact J9s_now hT (NW_set (J9g_now hT) (fun h => by omega) (fun h => by omega) (fun h => by omega) (fun h => by omega) (fun h => by omega) (fun h => by omega)) (up_n (by omega))
  have fin : ∀ (T : bT9) (w r : Int32), J9 T → F_X9_counts S T → b9g_now T = upd (upd (upd A g (A g + 1)) (g + 1) (upd A g (A g + 1) (g + 1) + YN a2)) (g + 2) (upd (upd A g (A g + 1)) (g + 1) (upd A g (A g + 1) (g + 1) + YN a2) (g + 2) + w) → w = YN a3 → r = YN a3 → Q r T := by
    intro T w r hT hF hn hw hr
    have n : b9g_now T = NTE A g (YN a2) (YN a3) := by rw [hn, NTE_upd, hw]
    exact hq r T hT hF hr n (by rw [n]; exact NTE_lt (by omega)) (by rw [n]; exact NTE_lt (by omega)) (by rw [n]; exact NTE_lt (by omega)) (by rw [n]; exact NTE_lt (by omega))
  have tail : ∀ T : bT9, J9 T → F_X9_counts S T → b9g_now T = upd (upd A g (A g + 1)) (g + 1) (upd A g (A g + 1) (g + 1) + YN a2) → wp_X9_counts_48 T a1 a3 Q := by
    intro T hT hF hn
    unfold wp_X9_counts_48 wp_X9_counts_76
    refine ⟨fun c => ⟨fun _ => fin T 0 0 hT hF (by rw [hn, upd0]) (YN_n c).symm (YN_n c).symm, fun h => absurd c h⟩, fun c => ⟨v2, fun w ew => ⟨v2, fun S2 e2' => ⟨fun h => absurd h c, fun _ => fin S2 1 1 ?_ ?_ ?_ (YN_y c).symm (YN_y c).symm⟩⟩⟩⟩
    · rw [e2']
      exact JS T _ _ hT (by omega)
    · rw [e2']
      exact hF
    · rw [e2', ew, i2, ← hn]
  unfold wp_X9_counts
  refine ⟨v0, fun w3 e3 => ⟨v0, fun S4 e4 => ?_⟩⟩
  have hJ4 : J9 S4 := by rw [e4]; exact JS S _ _ hJ (by omega)
  have hF4 : F_X9_counts S S4 := by rw [e4]; exact ⟨rfl, rfl, rfl, rfl, rfl, rfl, rfl, rfl, rfl, rfl, rfl, rfl, rfl, rfl, rfl, rfl, rfl, rfl, rfl, rfl, rfl, rfl, rfl, rfl, rfl, rfl, rfl, rfl, rfl, rfl, rfl, rfl, rfl, rfl, rfl, rfl, rfl, rfl, rfl, rfl, rfl, rfl, rfl, rfl, rfl⟩
  have n4 : b9g_now S4 = upd A g (A g + 1) := by rw [e4, e3, i0, hA]
  refine ⟨fun c => tail S4 hJ4 hF4 (by rw [n4, YN_n c, upd0]), fun c => ⟨v1, fun w5 e5 => ⟨v1, fun S6 e6 => tail S6 ?_ ?_ ?_⟩⟩⟩
  · rw [e6]
    exact JS S4 _ _ hJ4 (by omega)
  · rw [e6]
    exact hF4
  · rw [e6, e5, i1, n4, YN_y c]
def F_X9_asks (S u : bT9) : Prop := (b9g_told u) = (b9g_told S) ∧ (b9g_keys u) = (b9g_keys S) ∧ (b9g_lengths u) = (b9g_lengths S) ∧ (b9g_drawn u) = (b9g_drawn S) ∧ (b9g_drawnLength u) = (b9g_drawnLength S) ∧ (b9g_tape u) = (b9g_tape S) ∧ (b9g_taped u) = (b9g_taped S) ∧ (b9g_names u) = (b9g_names S) ∧ (b9g_chosen u) = (b9g_chosen S) ∧ (b9g_nodeLevel u) = (b9g_nodeLevel S) ∧ (b9g_nodeLeaf u) = (b9g_nodeLeaf S) ∧ (b9g_nodeLeaves u) = (b9g_nodeLeaves S) ∧ (b9g_nodeMany u) = (b9g_nodeMany S) ∧ (b9g_levelMany u) = (b9g_levelMany S) ∧ (b9g_upper u) = (b9g_upper S) ∧ (b9g_upperNodes u) = (b9g_upperNodes S) ∧ (b9g_areNodesLaid u) = (b9g_areNodesLaid S) ∧ (b9g_itemNode u) = (b9g_itemNode S) ∧ (b9g_itemByte u) = (b9g_itemByte S) ∧ (b9g_itemChild u) = (b9g_itemChild S) ∧ (b9g_itemMany u) = (b9g_itemMany S) ∧ (b9g_placeOf u) = (b9g_placeOf S) ∧ (b9g_leafOfPlace u) = (b9g_leafOfPlace S) ∧ (b9g_places u) = (b9g_places S) ∧ (b9g_fromKey u) = (b9g_fromKey S) ∧ (b9g_toKey u) = (b9g_toKey S) ∧ (b9g_fromLength u) = (b9g_fromLength S) ∧ (b9g_toLength u) = (b9g_toLength S) ∧ (b9g_ones u) = (b9g_ones S) ∧ (b9g_oneMany u) = (b9g_oneMany S) ∧ (b9g_rowLong u) = (b9g_rowLong S) ∧ (b9g_laidFor u) = (b9g_laidFor S) ∧ (b9g_signs u) = (b9g_signs S) ∧ (b9g_signMany u) = (b9g_signMany S) ∧ (b9g_hasImage u) = (b9g_hasImage S) ∧ (b9g_images u) = (b9g_images S) ∧ (b9g_keyImages u) = (b9g_keyImages S) ∧ (b9g_lengthImages u) = (b9g_lengthImages S)
theorem sf_X9_asks {S : bT9} (hJ : J9 S) {a1 : Int64} {a3 : Int32} {Q : Int32 → (bT9) → Prop} (hq : ∀ (r : Int32) (u : bT9), (J9 u) → F_X9_asks S u → (∃ v : Int32, (SR9 S → 1 ≤ a3.toInt → a3.toInt ≤ 8 → VRD (fun j => b9g_keys S (64 + j)) (fun j => b9g_lengths S (64 + j)) (b9g_now S 9).toInt (NBT (b9g_now S)) (b9g_now S 16) (HBT (b9g_now S)) a1 a3 v.toInt) ∧ r = IS2 v ∧ b9g_now u = NTE (b9g_now S) 17 (YN v) (IS2 v)) → (b9g_now u 10 = b9g_now S 10) → (b9g_now u 7 = b9g_now S 7) → (b9g_now u 4 = b9g_now S 4) → (b9g_now u 8 = b9g_now S 8) → Q r u) : wp_X9_asks S a1 a3 Q := by
  unfold wp_X9_asks
  refine sf_X9_mayNow hJ (fun r3 u4 hJ4 hf4 z3 hM => ?_)
  have hF4 : F_X9_asks S u4 := ⟨hf4.1, hf4.2.2.1, hf4.2.2.2.1, hf4.2.2.2.2.1, hf4.2.2.2.2.2.1, hf4.2.2.2.2.2.2.1, hf4.2.2.2.2.2.2.2.1, hf4.2.2.2.2.2.2.2.2.1, hf4.2.2.2.2.2.2.2.2.2.1, hf4.2.2.2.2.2.2.2.2.2.2.1, hf4.2.2.2.2.2.2.2.2.2.2.2.1, hf4.2.2.2.2.2.2.2.2.2.2.2.2.1, hf4.2.2.2.2.2.2.2.2.2.2.2.2.2.1, hf4.2.2.2.2.2.2.2.2.2.2.2.2.2.2.1, hf4.2.2.2.2.2.2.2.2.2.2.2.2.2.2.2.1, hf4.2.2.2.2.2.2.2.2.2.2.2.2.2.2.2.2.1, hf4.2.2.2.2.2.2.2.2.2.2.2.2.2.2.2.2.2.1, hf4.2.2.2.2.2.2.2.2.2.2.2.2.2.2.2.2.2.2.1, hf4.2.2.2.2.2.2.2.2.2.2.2.2.2.2.2.2.2.2.2.1, hf4.2.2.2.2.2.2.2.2.2.2.2.2.2.2.2.2.2.2.2.2.1, hf4.2.2.2.2.2.2.2.2.2.2.2.2.2.2.2.2.2.2.2.2.2.1, hf4.2.2.2.2.2.2.2.2.2.2.2.2.2.2.2.2.2.2.2.2.2.2.1, hf4.2.2.2.2.2.2.2.2.2.2.2.2.2.2.2.2.2.2.2.2.2.2.2.1, hf4.2.2.2.2.2.2.2.2.2.2.2.2.2.2.2.2.2.2.2.2.2.2.2.2.1, hf4.2.2.2.2.2.2.2.2.2.2.2.2.2.2.2.2.2.2.2.2.2.2.2.2.2.1, hf4.2.2.2.2.2.2.2.2.2.2.2.2.2.2.2.2.2.2.2.2.2.2.2.2.2.2.1, hf4.2.2.2.2.2.2.2.2.2.2.2.2.2.2.2.2.2.2.2.2.2.2.2.2.2.2.2.1, hf4.2.2.2.2.2.2.2.2.2.2.2.2.2.2.2.2.2.2.2.2.2.2.2.2.2.2.2.2.1, hf4.2.2.2.2.2.2.2.2.2.2.2.2.2.2.2.2.2.2.2.2.2.2.2.2.2.2.2.2.2.1, hf4.2.2.2.2.2.2.2.2.2.2.2.2.2.2.2.2.2.2.2.2.2.2.2.2.2.2.2.2.2.2.1, hf4.2.2.2.2.2.2.2.2.2.2.2.2.2.2.2.2.2.2.2.2.2.2.2.2.2.2.2.2.2.2.2.1, hf4.2.2.2.2.2.2.2.2.2.2.2.2.2.2.2.2.2.2.2.2.2.2.2.2.2.2.2.2.2.2.2.2.1, hf4.2.2.2.2.2.2.2.2.2.2.2.2.2.2.2.2.2.2.2.2.2.2.2.2.2.2.2.2.2.2.2.2.2.1, hf4.2.2.2.2.2.2.2.2.2.2.2.2.2.2.2.2.2.2.2.2.2.2.2.2.2.2.2.2.2.2.2.2.2.2.1, hf4.2.2.2.2.2.2.2.2.2.2.2.2.2.2.2.2.2.2.2.2.2.2.2.2.2.2.2.2.2.2.2.2.2.2.2.1, hf4.2.2.2.2.2.2.2.2.2.2.2.2.2.2.2.2.2.2.2.2.2.2.2.2.2.2.2.2.2.2.2.2.2.2.2.2.1, hf4.2.2.2.2.2.2.2.2.2.2.2.2.2.2.2.2.2.2.2.2.2.2.2.2.2.2.2.2.2.2.2.2.2.2.2.2.2.1, hf4.2.2.2.2.2.2.2.2.2.2.2.2.2.2.2.2.2.2.2.2.2.2.2.2.2.2.2.2.2.2.2.2.2.2.2.2.2.2⟩
  have nV : b9g_now u4 = b9g_now S := hf4.2.1
  have kV : b9g_keys u4 = b9g_keys S := hf4.2.2.1
  have lV : b9g_lengths u4 = b9g_lengths S := hf4.2.2.2.1
  have fin : ∀ (v m w : Int32), YN m = YN v → YN w = IS2 v → (SR9 S → 1 ≤ a3.toInt → a3.toInt ≤ 8 → VRD (fun j => b9g_keys S (64 + j)) (fun j => b9g_lengths S (64 + j)) (b9g_now S 9).toInt (NBT (b9g_now S)) (b9g_now S 16) (HBT (b9g_now S)) a1 a3 v.toInt) → wp_X9_asks_31 u4 0 m w Q := by
    intro v m w hm hw hV
    unfold wp_X9_asks_31
    refine sf_X9_counts hJ4 (by decide) (by decide) (fun r1 u2 hJ2 hf2 hr hn t1 t2 t3 t4 => ?_)
    have z17 : 17 + ((0 : Int32)).toNatClampNeg = 17 := by decide
    rw [nV, hm, hw, z17] at hn
    rw [nV] at t1 t2 t3 t4
    exact hq _ _ hJ2 ⟨(hf2.1).trans (hF4.1), (hf2.2.1).trans (hF4.2.1), (hf2.2.2.1).trans (hF4.2.2.1), (hf2.2.2.2.1).trans (hF4.2.2.2.1), (hf2.2.2.2.2.1).trans (hF4.2.2.2.2.1), (hf2.2.2.2.2.2.1).trans (hF4.2.2.2.2.2.1), (hf2.2.2.2.2.2.2.1).trans (hF4.2.2.2.2.2.2.1), (hf2.2.2.2.2.2.2.2.1).trans (hF4.2.2.2.2.2.2.2.1), (hf2.2.2.2.2.2.2.2.2.1).trans (hF4.2.2.2.2.2.2.2.2.1), (hf2.2.2.2.2.2.2.2.2.2.2.2.2.1).trans (hF4.2.2.2.2.2.2.2.2.2.1), (hf2.2.2.2.2.2.2.2.2.2.2.2.2.2.1).trans (hF4.2.2.2.2.2.2.2.2.2.2.1), (hf2.2.2.2.2.2.2.2.2.2.2.2.2.2.2.1).trans (hF4.2.2.2.2.2.2.2.2.2.2.2.1), (hf2.2.2.2.2.2.2.2.2.2.2.2.2.2.2.2.1).trans (hF4.2.2.2.2.2.2.2.2.2.2.2.2.1), (hf2.2.2.2.2.2.2.2.2.2.2.2.2.2.2.2.2.1).trans (hF4.2.2.2.2.2.2.2.2.2.2.2.2.2.1), (hf2.2.2.2.2.2.2.2.2.2.2.2.2.2.2.2.2.2.1).trans (hF4.2.2.2.2.2.2.2.2.2.2.2.2.2.2.1), (hf2.2.2.2.2.2.2.2.2.2.2.2.2.2.2.2.2.2.2.1).trans (hF4.2.2.2.2.2.2.2.2.2.2.2.2.2.2.2.1), (hf2.2.2.2.2.2.2.2.2.2.2.2.2.2.2.2.2.2.2.2.1).trans (hF4.2.2.2.2.2.2.2.2.2.2.2.2.2.2.2.2.1), (hf2.2.2.2.2.2.2.2.2.2.2.2.2.2.2.2.2.2.2.2.2.1).trans (hF4.2.2.2.2.2.2.2.2.2.2.2.2.2.2.2.2.2.1), (hf2.2.2.2.2.2.2.2.2.2.2.2.2.2.2.2.2.2.2.2.2.2.1).trans (hF4.2.2.2.2.2.2.2.2.2.2.2.2.2.2.2.2.2.2.1), (hf2.2.2.2.2.2.2.2.2.2.2.2.2.2.2.2.2.2.2.2.2.2.2.1).trans (hF4.2.2.2.2.2.2.2.2.2.2.2.2.2.2.2.2.2.2.2.1), (hf2.2.2.2.2.2.2.2.2.2.2.2.2.2.2.2.2.2.2.2.2.2.2.2.1).trans (hF4.2.2.2.2.2.2.2.2.2.2.2.2.2.2.2.2.2.2.2.2.1), (hf2.2.2.2.2.2.2.2.2.2.2.2.2.2.2.2.2.2.2.2.2.2.2.2.2.1).trans (hF4.2.2.2.2.2.2.2.2.2.2.2.2.2.2.2.2.2.2.2.2.2.1), (hf2.2.2.2.2.2.2.2.2.2.2.2.2.2.2.2.2.2.2.2.2.2.2.2.2.2.1).trans (hF4.2.2.2.2.2.2.2.2.2.2.2.2.2.2.2.2.2.2.2.2.2.2.1), (hf2.2.2.2.2.2.2.2.2.2.2.2.2.2.2.2.2.2.2.2.2.2.2.2.2.2.2.1).trans (hF4.2.2.2.2.2.2.2.2.2.2.2.2.2.2.2.2.2.2.2.2.2.2.2.1), (hf2.2.2.2.2.2.2.2.2.2.2.2.2.2.2.2.2.2.2.2.2.2.2.2.2.2.2.2.2.2.2.2.1).trans (hF4.2.2.2.2.2.2.2.2.2.2.2.2.2.2.2.2.2.2.2.2.2.2.2.2.1), (hf2.2.2.2.2.2.2.2.2.2.2.2.2.2.2.2.2.2.2.2.2.2.2.2.2.2.2.2.2.2.2.2.2.1).trans (hF4.2.2.2.2.2.2.2.2.2.2.2.2.2.2.2.2.2.2.2.2.2.2.2.2.2.1), (hf2.2.2.2.2.2.2.2.2.2.2.2.2.2.2.2.2.2.2.2.2.2.2.2.2.2.2.2.2.2.2.2.2.2.1).trans (hF4.2.2.2.2.2.2.2.2.2.2.2.2.2.2.2.2.2.2.2.2.2.2.2.2.2.2.1), (hf2.2.2.2.2.2.2.2.2.2.2.2.2.2.2.2.2.2.2.2.2.2.2.2.2.2.2.2.2.2.2.2.2.2.2.1).trans (hF4.2.2.2.2.2.2.2.2.2.2.2.2.2.2.2.2.2.2.2.2.2.2.2.2.2.2.2.1), (hf2.2.2.2.2.2.2.2.2.2.2.2.2.2.2.2.2.2.2.2.2.2.2.2.2.2.2.2.2.2.2.2.2.2.2.2.1).trans (hF4.2.2.2.2.2.2.2.2.2.2.2.2.2.2.2.2.2.2.2.2.2.2.2.2.2.2.2.2.1), (hf2.2.2.2.2.2.2.2.2.2.2.2.2.2.2.2.2.2.2.2.2.2.2.2.2.2.2.2.2.2.2.2.2.2.2.2.2.1).trans (hF4.2.2.2.2.2.2.2.2.2.2.2.2.2.2.2.2.2.2.2.2.2.2.2.2.2.2.2.2.2.1), (hf2.2.2.2.2.2.2.2.2.2.2.2.2.2.2.2.2.2.2.2.2.2.2.2.2.2.2.2.2.2.2.2.2.2.2.2.2.2.1).trans (hF4.2.2.2.2.2.2.2.2.2.2.2.2.2.2.2.2.2.2.2.2.2.2.2.2.2.2.2.2.2.2.1), (hf2.2.2.2.2.2.2.2.2.2.2.2.2.2.2.2.2.2.2.2.2.2.2.2.2.2.2.2.2.2.2.2.2.2.2.2.2.2.2.1).trans (hF4.2.2.2.2.2.2.2.2.2.2.2.2.2.2.2.2.2.2.2.2.2.2.2.2.2.2.2.2.2.2.2.1), (hf2.2.2.2.2.2.2.2.2.2.2.2.2.2.2.2.2.2.2.2.2.2.2.2.2.2.2.2.2.2.2.2.2.2.2.2.2.2.2.2.1).trans (hF4.2.2.2.2.2.2.2.2.2.2.2.2.2.2.2.2.2.2.2.2.2.2.2.2.2.2.2.2.2.2.2.2.1), (hf2.2.2.2.2.2.2.2.2.2.2.2.2.2.2.2.2.2.2.2.2.2.2.2.2.2.2.2.2.2.2.2.2.2.2.2.2.2.2.2.2.1).trans (hF4.2.2.2.2.2.2.2.2.2.2.2.2.2.2.2.2.2.2.2.2.2.2.2.2.2.2.2.2.2.2.2.2.2.1), (hf2.2.2.2.2.2.2.2.2.2.2.2.2.2.2.2.2.2.2.2.2.2.2.2.2.2.2.2.2.2.2.2.2.2.2.2.2.2.2.2.2.2.1).trans (hF4.2.2.2.2.2.2.2.2.2.2.2.2.2.2.2.2.2.2.2.2.2.2.2.2.2.2.2.2.2.2.2.2.2.2.1), (hf2.2.2.2.2.2.2.2.2.2.2.2.2.2.2.2.2.2.2.2.2.2.2.2.2.2.2.2.2.2.2.2.2.2.2.2.2.2.2.2.2.2.2.1).trans (hF4.2.2.2.2.2.2.2.2.2.2.2.2.2.2.2.2.2.2.2.2.2.2.2.2.2.2.2.2.2.2.2.2.2.2.2.1), (hf2.2.2.2.2.2.2.2.2.2.2.2.2.2.2.2.2.2.2.2.2.2.2.2.2.2.2.2.2.2.2.2.2.2.2.2.2.2.2.2.2.2.2.2.1).trans (hF4.2.2.2.2.2.2.2.2.2.2.2.2.2.2.2.2.2.2.2.2.2.2.2.2.2.2.2.2.2.2.2.2.2.2.2.2.1), (hf2.2.2.2.2.2.2.2.2.2.2.2.2.2.2.2.2.2.2.2.2.2.2.2.2.2.2.2.2.2.2.2.2.2.2.2.2.2.2.2.2.2.2.2.2).trans (hF4.2.2.2.2.2.2.2.2.2.2.2.2.2.2.2.2.2.2.2.2.2.2.2.2.2.2.2.2.2.2.2.2.2.2.2.2.2)⟩ ⟨v, hV, by rw [hr, hw], hn⟩ t1 t2 t3 t4
  refine ⟨fun c => ?_, fun c => ?_⟩
  · unfold wp_X9_asks_30
    rw [c]
    refine fin 0 0 0 rfl rfl (fun hs p1 p8 => Or.inl ⟨rfl, ?_⟩)
    have q := hM hs p1 p8
    rw [c] at q
    exact q
  · have m1 : SR9 S → 1 ≤ a3.toInt → a3.toInt ≤ 8 → MAY (fun j => b9g_keys S (64 + j)) (fun j => b9g_lengths S (64 + j)) (b9g_now S 9).toInt (NBT (b9g_now S)) (b9g_now S 16) (HBT (b9g_now S)) a1 a3 1 := by
      intro hs p1 p8
      obtain ⟨l, q1, q2⟩ := hM hs p1 p8
      rcases q2 with ⟨e, q3⟩ | ⟨e, _⟩
      · exact ⟨l, q1, Or.inl ⟨rfl, q3⟩⟩
      · exact absurd (Int32.toInt_inj.mp (e.trans pl_0.symm)) c
    refine sf_X9_isOfFilter hJ4.1 (fun r5 z5 h5 => ?_)
    unfold SR9 at h5
    rw [kV, lV, nV] at h5
    refine ⟨fun d => ?_, fun d => fin 2 r3 1 (by rw [YN_y c]; rfl) rfl (fun hs p1 p8 => Or.inr (Or.inr ⟨rfl, m1 hs p1 p8, ?_⟩))⟩
    · unfold wp_X9_asks_30
      refine fin 1 r3 0 (by rw [YN_y c]; rfl) rfl (fun hs p1 p8 => Or.inr (Or.inl ⟨rfl, m1 hs p1 p8, ?_⟩))
      exact bl_y (h5 hs) d
    · have q := bl_n (h5 hs) d
      intro j hj he
      exact q ⟨j, hj, he⟩
