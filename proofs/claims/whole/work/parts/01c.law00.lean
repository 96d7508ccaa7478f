theorem kl_0 : aDec code ((c249.drop 0).take 20) = true := by decide +kernel
