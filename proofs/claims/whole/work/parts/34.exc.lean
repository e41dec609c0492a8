def NSE : String := "java/util/NoSuchElementException"
def nseN : List String := ["java/lang/RuntimeException", "java/lang/Exception"]
def nseB : List Cond := [.castable NSE NSE, .declares ⟨"java/lang/RuntimeException", "<init>", "()V"⟩, .declares ⟨"java/lang/RuntimeException", "<init>", "(Ljava/lang/String;)V"⟩, .declares ⟨"java/lang/Exception", "<init>", "()V"⟩, .declares ⟨"java/lang/Exception", "<init>", "(Ljava/lang/String;)V"⟩, .declares ⟨"java/lang/Throwable", "<init>", "()V"⟩, .declares ⟨"java/lang/Throwable", "<init>", "(Ljava/lang/String;)V"⟩]
theorem px1 : ∀ w ∈ (vx_atS RX11 157 NSE nseN).filter (fun w => !goodWord w), w ∈ nseB := by decide +kernel
theorem px3 : ∀ w ∈ nseB, w ∈ tables_1 := by decide +kernel
theorem px4 : ∀ w ∈ (vx_atS RX11 157 NSE nseN).take 10, w ∈ tables_1 := by decide +kernel
theorem px6 : ∀ w ∈ Cond.classLink RX11 153 NSE :: Cond.initialized NSE :: vx_atS RX11 157 NSE nseN, vx_ot w = true := by decide +kernel
